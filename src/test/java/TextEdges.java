/** Promises 1 to 5, sentence by sentence. */
final class TextEdges {
    private static final int FAR = Check.FAR, LOW = Check.LOW;

    private TextEdges() {
    }

    static void run() {
        Check.section("Promise 1");
        newObject();
        Check.section("Promise 2");
        feed();
        Check.section("Promise 3");
        end();
        Check.section("Promise 4");
        text();
        Check.section("Promise 5");
        fault();
    }

    private static void newObject() {
        Check.sentence("Creates an object with two drafts without clauses;");
        ClauseDrafts x = new ClauseDrafts();
        for (int side = 0; side <= 1; side++) {
            Check.due("draft", "0 0 0 0 0", x.draft(side, 0), x.draft(side, 1), x.draft(side, 2),
                    x.draft(side, 3), x.draft(side, 4));
            Check.each("clauses of draft " + side, -1, x.clause(side, 0, 0), x.word(side, 0, 0),
                    x.kept(side, 0, 0), x.leads(side, 0, 0), x.find(0, side, 0), x.find(1, side, 0),
                    x.write(side, 0, 0, 1), x.insert(side, 0, 0, 1), x.erase(side, 0, 0),
                    x.strike(side, 0), x.swap(side, 0));
            Check.due("shown", "0 0 0 0 -4 -4", x.shown(side, 0), x.shown(side, 1), x.shown(side,
                    2),
                    x.shown(side, 3), x.shownClause(side, 0, 0), x.shownWord(side, 0, 0));
        }
        for (int what = 0; what <= 4; what++) {
            Check.due("cost", 0, x.cost(what));
        }
        for (int what = 0; what <= 10; what++) {
            Check.due("count", 0, x.count(what));
        }
        Check.each("changes, clauses", -1, x.change(0, 0), x.choose(0, 0), x.between(0, 0));
        Check.due("decide, exchange, settle", "0 0 0 0 0", x.decide(0), x.decide(1), x.decide(2),
                x.exchange(), x.settle());
        Check.sentence("the tape is empty, the head is 2, all sheets are missing, and both images"
                + " are empty.");
        x = new ClauseDrafts();
        Check.due("tape, head", "0 0 2", x.count(11), x.end(0), x.head(2));
        Check.each("sheets", -11, x.lay(0, 0, 0), x.lay(1, 0, 0), x.lay(2, 0, 0), x.lay(3, 0, 0));
        Check.due("sheet 0, images", "-4 0 -2 -2 0 0", x.count(13), x.count(12), x.back(0),
                x.back(1),
                x.keep(0), x.keep(1));
        Check.due("each object by itself", "0 2 0", new ClauseDrafts().count(12),
                new ClauseDrafts().head(9),
                new ClauseDrafts().count(11));
    }

    private static void feed() {
        Check.sentence("Appends a byte to the tape.");
        ClauseDrafts x = new ClauseDrafts();
        Check.due("feed", "1 2 3 4 5", x.feed('<'), x.feed('0'), x.feed('k'), x.feed(';'),
                x.feed('>'));
        Check.due("in this order", "1 11", x.text(), x.word(0, 0, 0));
        Check.sentence("c: 0 to 127");
        Check.each("no bytes", -1, x.feed(-1), x.feed(128), x.feed(LOW), x.feed(FAR), x.feed(256
                + '<'));
        for (int c = 0; c <= 127; c++) {
            Check.due("feed of " + c, c + 1, x.feed(c));
        }
        Check.sentence("Returns how many bytes the tape has then; errors: BAD; FULL if it has"
                + " 160.");
        x.text();
        for (int i = 1; i <= 160; i++) {
            Check.due("feed, bytes", i + " " + i, x.feed(' '), x.count(11));
        }
        Check.due("a full tape", "-3 -3 160 -1 -1", x.feed(0), x.feed(127), x.count(11), x.feed(-1),
                x.feed(128));
    }

    private static void end() {
        Check.sentence("Keeps only the first bytes of the tape.");
        ClauseDrafts x = new ClauseDrafts();
        Check.feed(x, "<0ab;>");
        Check.due("end", "6 3", x.end(3), x.count(11));
        Check.feed(x, "z;>");
        Check.due("text", "1 1 26", x.text(), x.word(0, 0, 0), x.word(0, 0, 1));
        Check.sentence("n: how many, 0 to the number of its bytes");
        Check.due("of an empty tape", "-1 0 -1 -1 -1", x.end(-1), x.end(0), x.end(1), x.end(FAR),
                x.end(LOW));
        Check.feed(x, "<>");
        Check.due("of two bytes", "-1 -1 2", x.end(-1), x.end(3), x.count(11));
        Check.sentence("Returns how many bytes it had; errors: BAD.");
        Check.due("all of them, one, none, none", "2 2 1 0", x.end(2), x.end(1), x.end(0),
                x.end(0));
        for (int i = 0; i < 160; i++) {
            x.feed(i == 0 ? '<' : i == 1 ? '>' : i == 159 ? '?' : ' ');
        }
        Check.due("a full tape", "-1 160 160 159", x.end(161), x.end(160), x.end(159), x.count(11));
        Check.due("a byte more, then without it", "160 -3 160 0", x.feed('?'), x.feed('?'),
                x.end(159), x.text());
    }

    private static void text() {
        Check.sentence("Reads the tape as both drafts, which replace the present ones; they are"
                + " compared again, and both"
                + " images are empty then.");
        ClauseDrafts x = Check.made("<0abcdef;1gh;0;>0xyz;1;");
        Check.due("keep", "0 0 2", x.keep(0), x.keep(1), x.count(12));
        x.decide(1);
        Check.due("text", 1, Check.read(x, "<0p;>"));
        Check.same("the old draft", "0p;", Check.draft(x, 0));
        Check.same("the new draft", "", Check.draft(x, 1));
        Check.due("compared: cost, changes, open ones", "3 1 1", x.cost(0), x.count(0), x.count(1));
        Check.due("images", "0 -2 -2 0", x.count(12), x.back(0), x.back(1), x.keep(1));
        x.decide(2);
        Check.due("the same text", 1, Check.read(x, "<0p;>"));
        Check.due("open again, images", "1 0", x.count(1), x.count(12));
        Check.due("drafts without clauses", "0 0 0", Check.read(x, "<>"), x.draft(0, 0),
                x.count(0));
        Check.sentence("The head and the sheets stay.");
        x.head(7);
        x.sheet(0, 1, 2);
        x.sheet(3, 0, 1);
        x.lay(0, 1, 4);
        Check.due("text", "1 7", Check.read(x, "<>0;"), x.clause(1, 0, 3));
        Check.due("sheets", "2 1 4 1", x.count(13), x.paste(0, 1, 1, 0, 1), x.word(1, 0, 0),
                x.lay(3, 0, 1));
        Check.due("head", 7, x.head(2));
        Check.sentence("The tape is empty afterwards, also if it has a fault; but then nothing"
                + " else changes except what"
                + " fault() returns.");
        Check.due("text, bytes", "0 0", Check.read(x, "<>"), x.count(11));
        for (String text : new String[] {"", "?", "<1", "<0abcdefg", "<0;0;0;0;0;0;0;0;0;",
                "<0z;>0"}) {
            ClauseDrafts one = ErrorEdges.rich();
            ClauseDrafts other = ErrorEdges.rich();
            one.end(0);
            other.end(0);
            Check.holds(text + " has a fault", Check.read(one, text) < 0 && one.fault() > 0);
            Check.due("bytes", 0, one.count(11));
            // what fault() returns is made the same again by a text that has a fault too
            Check.same("after " + text, withoutFault(other), withoutFault(one));
        }
        places();
    }

    private static String withoutFault(ClauseDrafts x) {
        x.feed('?');
        x.text();
        return Check.everything(x);
    }

    private static void places() {
        Check.sentence("Returns the number of clauses of both drafts together; -10 minus the place"
                + " of the fault if there"
                + " is one.");
        ClauseDrafts x = new ClauseDrafts();
        Check.due("clauses of both", "0 1 1 16", Check.read(x, "<>"), Check.read(x, "<0;>"),
                Check.read(x, "<>0;"),
                Check.read(x, "<0;0;0;0;0;0;0;0;>0;0;0;0;0;0;0;0;"));
        Check.due("places", "-10 -10 -11 -12 -170", x.text(), Check.read(x, "0"), Check.read(x,
                "<<"),
                Check.read(x, "<>>"), Check.read(x, " ".repeat(160)));
    }

    private static void fault() {
        Check.sentence("Returns the kind of the fault of the latest call of text();");
        ClauseDrafts x = new ClauseDrafts();
        String[] texts = {"*", "<<", "<0;0;0;0;0;0;0;0;0", "<1", "<0abcdefg"};
        for (int kind = 1; kind <= 5; kind++) {
            Check.read(x, texts[kind - 1]);
            Check.due("kind", kind + " " + kind, x.fault(), x.fault());
        }
        Check.due("other calls leave it", "2 5 1 5 0 5 0 5", x.head(2), x.fault(), x.feed('<'),
                x.fault(), x.keep(0),
                x.fault(), x.exchange(), x.fault());
        Check.due("also going back", "0 5", x.back(0), x.fault());
        x.end(0);
        Check.sentence("0 if it had none, or if there was no such call.");
        Check.due("no such call", "0 1 0 1 0", new ClauseDrafts().fault(), x.feed('<'),
                new ClauseDrafts().fault(),
                x.end(0), new ClauseDrafts().fault());
        Check.due("it had none", "0 0", Check.read(x, "<>"), x.fault());
    }
}
