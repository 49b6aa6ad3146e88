/** Promises 21 to 28, sentence by sentence. */
final class EditEdges {
    private static final int FAR = Check.FAR, LOW = Check.LOW;
    private static final int[] NO_CODES = {0, -1, 27, 28, 29, 40, 65536 + 1, FAR, LOW};

    private EditEdges() {
    }

    static void run() {
        Check.section("Promise 21");
        head();
        Check.section("Promise 22");
        write();
        Check.section("Promise 23");
        insert();
        Check.section("Promise 24");
        erase();
        Check.section("Promise 25");
        add();
        Check.section("Promise 26");
        strike();
        Check.section("Promise 27");
        swap();
        swapOfTheLastOne();
        Check.section("Promise 28");
        exchange();
    }

    private static void drafts(ClauseDrafts x, String old, String fresh) {
        Check.same("the old draft", old, Check.draft(x, 0));
        Check.same("the new draft", fresh, Check.draft(x, 1));
    }

    /** All changes are open, and there are some; then they are accepted again. */
    private static void compared(String call, ClauseDrafts x, int want, int got) {
        Check.due(call, want, got);
        Check.holds("changes after " + call, x.count(0) > 0);
        Check.due("open ones after " + call, x.count(0), x.count(1));
        x.decide(1);
    }

    private static void head() {
        Check.sentence("---- editing; the drafts are compared again after each successful call"
                + " (but see swap())");
        ClauseDrafts x = Check.made("<0a;0;>0b;1c;");
        x.decide(1);
        compared("head", x, 2, x.head(2));
        compared("write", x, 1, x.write(0, 0, 0, 1));
        compared("insert", x, 2, x.insert(0, 0, 0, 4));
        compared("erase", x, 1, x.erase(0, 0, 0));
        compared("add", x, 2, x.add(0, 0));
        compared("strike", x, 2, x.strike(0, 2));
        compared("swap", x, 1, x.swap(0, 0));
        // b is a pair with the clause without words (1), c goes (3), a comes (3)
        compared("exchange", x, 7, x.exchange());
        Check.sentence("Sets the head.");
        x = Check.made("<0a;1b;>0a;");
        Check.sentence("v: 0 to 9");
        Check.each("no heads", -1, x.head(-1), x.head(10), x.head(FAR), x.head(LOW));
        Check.sentence("Returns the head before; errors: BAD.");
        int before = 2;
        for (int v = 0; v <= 9; v++) {
            Check.due("head, weight, cost", before + " " + (2 * v + 2) + " " + (v + 1), x.head(v),
                    x.clause(0, 0, 3), x.cost(0));
            before = v;
        }
        Check.due("head", "9 0", x.head(0), x.head(0));
    }

    private static void write() {
        Check.sentence("Replaces a word.");
        ClauseDrafts x = Check.made("<0abc;0d;>0;0;0;0;0;0;0;0abcdef;");
        Check.due("write", "2 1 6", x.write(0, 0, 1, 30), x.write(1, 7, 0, 26), x.write(1, 7, 5,
                39));
        drafts(x, "0a#0c;0d;", "0;0;0;0;0;0;0;0zbcde#9;");
        Check.sentence("side: 0 or 1");
        Check.each("sides", -1, x.write(-1, 0, 0, 1), x.write(2, 0, 0, 1), x.write(FAR, 0, 0, 1),
                x.write(LOW, 0, 0, 1));
        Check.sentence("c: the clause");
        Check.each("clauses", -1, x.write(0, -1, 0, 1), x.write(0, 2, 0, 1), x.write(1, 8, 0, 1),
                x.write(0, FAR, 0, 1));
        Check.sentence("w: the number of a word that it has");
        Check.each("words", -1, x.write(0, 0, -1, 1), x.write(0, 0, 3, 1), x.write(1, 0, 0, 1),
                x.write(1, 7, 6, 1),
                x.write(0, 0, FAR, 1), x.write(0, 0, LOW, 1));
        Check.sentence("code: the new word, 1 to 26 or 30 to 39");
        for (int code : NO_CODES) {
            Check.due("write of " + code, -1, x.write(0, 0, 0, code));
        }
        drafts(x, "0a#0c;0d;", "0;0;0;0;0;0;0;0zbcde#9;");
        Check.sentence("Returns the word before; errors: BAD.");
        Check.due("one after the other", "1 26 30 39 1", x.write(0, 0, 0, 26), x.write(0, 0, 0, 30),
                x.write(0, 0, 0, 39),
                x.write(0, 0, 0, 1), x.write(0, 0, 0, 1));
    }

    private static void insert() {
        Check.sentence("Inserts a word.");
        ClauseDrafts x = Check.made("<0;0a;>0bc;");
        Check.due("first, last, between", "3 4 5", x.insert(1, 0, 0, 1), x.insert(1, 0, 3, 26),
                x.insert(1, 0, 2, 35));
        drafts(x, "0;0a;", "0ab#5cz;");
        Check.sentence("side: 0 or 1");
        Check.each("sides", -1, x.insert(-1, 0, 0, 1), x.insert(2, 0, 0, 1), x.insert(FAR, 0, 0, 1),
                x.insert(LOW, 0, 0, 1));
        Check.sentence("c: the clause");
        Check.each("clauses", -1, x.insert(0, -1, 0, 1), x.insert(0, 2, 0, 1), x.insert(1, 1, 0, 1),
                x.insert(0, FAR, 0, 1));
        Check.sentence("w: how many words are before it, 0 to the number of words of the clause");
        Check.each("places", -1, x.insert(0, 0, -1, 1), x.insert(0, 0, 1, 1), x.insert(0, 1, 2, 1),
                x.insert(1, 0, 6, 1),
                x.insert(0, 0, FAR, 1), x.insert(0, 0, LOW, 1));
        Check.sentence("code: the word, 1 to 26 or 30 to 39");
        for (int code : NO_CODES) {
            Check.due("insert of " + code, -1, x.insert(0, 0, 0, code));
        }
        drafts(x, "0;0a;", "0ab#5cz;");
        Check.due("codes", "1 2 3 4", x.insert(0, 0, 0, 1), x.insert(0, 0, 1, 26), x.insert(0, 0, 2,
                30), x.insert(0, 0, 3, 39));
        Check.sentence("Returns how many words the clause has then; errors: BAD; FULL if it has"
                + " 6.");
        Check.due("the sixth, a seventh at each place", "6 -3 -3 -3", x.insert(1, 0, 5, 3),
                x.insert(1, 0, 6, 3),
                x.insert(1, 0, 0, 3), x.insert(1, 0, 3, 39));
        Check.due("BAD and FULL", "-1 -1 -1 -1", x.insert(1, 0, 7, 3), x.insert(1, 0, -1, 3),
                x.insert(1, 0, 6, 27),
                x.insert(1, 0, 6, 0));
        drafts(x, "0az#0#9;0a;", "0ab#5czc;");
        for (int w = 0; w < 6; w++) {
            ClauseDrafts y = Check.made("<0abcde;0pqrstu;>");
            Check.due("insert at " + w, 6, y.insert(0, 0, w, 26));
            drafts(y, "0" + "abcde".substring(0, w) + "z" + "abcde".substring(w) + ";0pqrstu;", "");
        }
    }

    private static void erase() {
        Check.sentence("Removes a word.");
        for (int w = 0; w < 6; w++) {
            ClauseDrafts y = Check.made("<>0abcdef;0pqrstu;");
            Check.due("erase of " + w, 5, y.erase(1, 0, w));
            drafts(y, "", "0" + "abcdef".substring(0, w) + "abcdef".substring(w + 1) + ";0pqrstu;");
        }
        ClauseDrafts x = Check.made("<0abc;0;>0a;");
        Check.sentence("side: 0 or 1");
        Check.each("sides", -1, x.erase(-1, 0, 0), x.erase(2, 0, 0), x.erase(FAR, 0, 0),
                x.erase(LOW, 0, 0));
        Check.sentence("c: the clause");
        Check.each("clauses", -1, x.erase(0, -1, 0), x.erase(0, 2, 0), x.erase(1, 1, 0), x.erase(0,
                FAR, 0), x.erase(0, LOW, 0));
        Check.sentence("w: the number of a word that it has");
        Check.each("words", -1, x.erase(0, 0, -1), x.erase(0, 0, 3), x.erase(0, 1, 0), x.erase(1, 0,
                1), x.erase(0, 0, FAR),
                x.erase(0, 0, LOW));
        Check.sentence("Returns how many words are left in the clause; errors: BAD.");
        Check.due("until none is left", "2 1 0 -1 0 -1", x.erase(0, 0, 0), x.erase(0, 0, 1),
                x.erase(0, 0, 0), x.erase(0, 0, 0),
                x.erase(1, 0, 0), x.erase(1, 0, 0));
        drafts(x, "0;0;", "0;");
    }

    private static void add() {
        Check.sentence("Adds a clause without words at the end of a draft.");
        ClauseDrafts x = Check.made("<0abcdef;1ghijkl;>");
        x.strike(0, 1);
        Check.due("add, its words", "1 0 -4", x.add(0, 1), x.clause(0, 1, 1), x.word(0, 1, 0));
        drafts(x, "0abcdef;1;", "");
        Check.sentence("side: 0 or 1");
        Check.each("sides", -1, x.add(-1, 0), x.add(2, 0), x.add(FAR, 0), x.add(LOW, 0));
        Check.sentence("depth: its depth, one that a clause may have there");
        Check.each("depths behind depth 1", -1, x.add(0, -1), x.add(0, 3), x.add(0, 4), x.add(0,
                FAR), x.add(0, LOW));
        Check.each("depths of a first clause", -1, x.add(1, -1), x.add(1, 1), x.add(1, 2), x.add(1,
                FAR), x.add(1, LOW));
        Check.sentence("Returns its number; errors: BAD; FULL if the draft has 8 clauses.");
        Check.due("add", "2 3 4 5 6 7", x.add(0, 2), x.add(0, 3), x.add(0, 3), x.add(0, 0), x.add(0,
                1), x.add(0, 1));
        drafts(x, "0abcdef;1;2;3;3;0;1;1;", "");
        Check.due("a ninth", "-3 -3 -3 8", x.add(0, 0), x.add(0, 1), x.add(0, 2), x.draft(0, 0));
        Check.due("BAD and FULL", "-1 -1 -1", x.add(0, 3), x.add(0, -1), x.add(0, 4));
        Check.due("the other draft has room", 0, x.add(1, 0));
    }

    private static void strike() {
        Check.sentence("Removes the branch of a clause.");
        ClauseDrafts x = Check.made("<0a#4;1b;2c#2;1d#1;0e#4;>0;1;2;3;3;2;1;0abcdef;");
        Check.due("strike", "3 1", x.strike(0, 1), x.strike(1, 0));
        Check.sentence("The codes of references stay as they are.");
        drafts(x, "0a#4;1d#1;0e#4;", "0abcdef;");
        Check.due("dangling ones", 2, x.draft(0, 3));
        Check.sentence("side: 0 or 1");
        Check.each("sides", -1, x.strike(-1, 0), x.strike(2, 0), x.strike(FAR, 0), x.strike(LOW,
                0));
        Check.sentence("c: the clause");
        Check.each("clauses", -1, x.strike(0, -1), x.strike(0, 3), x.strike(1, 1), x.strike(0, FAR),
                x.strike(0, LOW));
        Check.sentence("Returns how many clauses are left in the draft; errors: BAD.");
        Check.due("the last ones", "2 0 0 -1 -1", x.strike(0, 2), x.strike(0, 0), x.strike(1, 0),
                x.strike(0, 0), x.strike(1, 0));
        drafts(x, "", "");
        x = Check.made("<0;0;0;0;0;0;0;0;>0;1;1;1;1;1;1;1;");
        Check.due("of eight", "7 6 7 0", x.strike(0, 7), x.strike(0, 0), x.strike(1, 7), x.strike(1,
                0));
        Check.due("room again", 6, x.add(0, 0));
    }

    private static void swap() {
        Check.sentence("Exchanges the branch of a clause with that of the next clause of its row.");
        ClauseDrafts x = Check.made("<0a;1b;2c;0d;1e;0f;>0a;1b;1c;2d;1e;");
        Check.due("swap", 2, x.swap(0, 0));
        drafts(x, "0d;1e;0a;1b;2c;0f;", "0a;1b;1c;2d;1e;");
        Check.due("swap of children", 3, x.swap(1, 1));
        drafts(x, "0d;1e;0a;1b;2c;0f;", "0a;1c;2d;1b;1e;");
        Check.sentence("All references of the draft that do not dangle get the new numbers of the"
                + " clauses to which they lead.");
        x = Check.made("<0#0#1#2#3#4#9;0#0;>0#0#1#2#3#4#5;1#1;0#2#6;1#3;1#4#7;0#5#0;");
        Check.due("swap", 3, x.swap(1, 0));
        drafts(x, "0#0#1#2#3#4#9;0#0;", "0#0#6;1#1;1#2#7;0#3#4#0#1#2#5;1#4;0#5#3;");
        x = Check.made("<0#6#7#8;0;0;0;0;0;0#7;0#6#9;>");
        Check.due("the last two of eight", 7, x.swap(0, 6));
        drafts(x, "0#7#6#8;0;0;0;0;0;0#7#9;0#6;", "");
        ClauseDrafts y = Check.made("<0#0#1#2#3#4#5;0#6#7;0;0;0;0;0;0;>");
        Check.due("the first two of eight: the others keep their numbers", 1, y.swap(0, 0));
        drafts(y, "0#6#7;0#1#0#2#3#4#5;0;0;0;0;0;0;", "");
        Check.sentence("side: 0 or 1");
        Check.each("sides", -1, x.swap(-1, 0), x.swap(2, 0), x.swap(FAR, 0), x.swap(LOW, 0));
        Check.sentence("c: the clause");
        Check.each("clauses", -1, x.swap(0, -1), x.swap(0, 8), x.swap(1, 0), x.swap(0, FAR),
                x.swap(0, LOW));
    }

    private static void swapOfTheLastOne() {
        Check.sentence("Returns its number then; NONE if it is the last clause of its row (then"
                + " nothing changes, and nothing is compared"
                + " again); errors: BAD.");
        ClauseDrafts x = Check.made("<0a;1b;2c;1d;0e;1f;>0x;");
        x.decide(1);
        Check.due("last ones", "-4 -4 -4 -4", x.swap(0, 2), x.swap(0, 3), x.swap(0, 4), x.swap(0,
                5));
        Check.due("an only one", -4, x.swap(1, 0));
        drafts(x, "0a;1b;2c;1d;0e;1f;", "0x;");
        Check.due("nothing is open", 0, x.count(1));
        Check.due("others", "2 2", Check.made("<0a;1b;2c;1d;0e;1f;>").swap(0, 1), x.swap(0, 0));
        Check.due("everything is open", x.count(0), x.count(1));
    }

    private static void exchange() {
        Check.sentence("Exchanges the old draft and the new one.");
        ClauseDrafts x = Check.made("<0abcdef;1;2;3;3;2;1;0#7;>0a;");
        x.head(5);
        x.keep(0);
        int cost = x.cost(0);
        Check.sentence("Returns the cost of the rows of depth 0 then.");
        Check.due("exchange", cost, x.exchange());
        drafts(x, "0a;", "0abcdef;1;2;3;3;2;1;0#7;");
        Check.due("the head and the image stay", "5 1 4", x.head(5), x.count(12), x.back(0));
        drafts(x, "0abcdef;1;2;3;3;2;1;0#7;", "0a;");
        x = Check.made("<0ab;1c;>");
        Check.due("with nothing", "7 0 7 7 7 0", x.exchange(), x.cost(2), x.cost(3), x.exchange(),
                x.cost(2), x.cost(3));
        Check.due("of nothing", 0, new ClauseDrafts().exchange());
        // other ties are decided in another way then: the one that is removed is always the old one
        x = Check.made("<0ab;0cd;>0cd;0ab;");
        x.head(1);
        Check.due("moved ones", "2 0 0 2", x.clause(0, 0, 6), x.clause(0, 1, 6), x.clause(1, 0, 6),
                x.clause(1, 1, 6));
        Check.due("exchange", 6, x.exchange());
        Check.due("moved ones", "2 0 0 2", x.clause(0, 0, 6), x.clause(0, 1, 6), x.clause(1, 0, 6),
                x.clause(1, 1, 6));
    }
}
