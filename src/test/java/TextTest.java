/** Promises 1 to 5: a new object, and the text. */
final class TextTest {
    private TextTest() {
    }

    public static void main(String[] args) {
        newObject();
        feeding();
        ending();
        readingGoodTexts();
        faultPlaces();
        faultsOfDepthAndRoom();
        faultsAtTheEnd();
        orderOfKinds();
        whatTextLeaves();
        Check.finish();
    }

    private static void newObject() {
        ClauseDrafts x = new ClauseDrafts();
        Check.due("drafts", "0 0 0 0 0 0", x.draft(0, 0), x.draft(0, 1), x.draft(0, 4),
                x.draft(1, 0), x.draft(1, 2), x.draft(1, 3));
        Check.due("tape", 0, x.count(11));
        Check.due("images", 0, x.count(12));
        Check.due("sheet 0", ClauseDrafts.NONE, x.count(13));
        for (int k = 0; k < 4; k++) {
            Check.due("lay on a missing sheet", -11, x.lay(k, 0, 1));
        }
        Check.due("back", "-2 -2", x.back(0), x.back(1));
        Check.due("fault", 0, x.fault());
        Check.due("costs", "0 0 0 0 0", x.cost(0), x.cost(1), x.cost(2), x.cost(3), x.cost(4));
        Check.due("changes and pairs", "0 0", x.count(0), x.count(4));
        Check.due("shown", "0 0 0 0", x.shown(0, 0), x.shown(1, 0), x.shown(0, 1), x.shown(1, 3));
        Check.due("clauses that do not exist", "-1 -1 -1", x.clause(0, 0, 0), x.between(0, 0),
                x.find(0, 0, 0));
        Check.due("settle", 0, x.settle());
        Check.due("head", 2, x.head(5));
    }

    private static void feeding() {
        ClauseDrafts x = new ClauseDrafts();
        Check.due("feed", "-1 -1 -1 -1", x.feed(-1), x.feed(128), x.feed(Integer.MIN_VALUE),
                x.feed(Integer.MAX_VALUE));
        Check.due("feed", "1 2", x.feed(0), x.feed(127));
        for (int i = 3; i <= 160; i++) {
            Check.due("feed", i, x.feed(' '));
        }
        Check.due("feed of a full tape", "-3 -3 -1", x.feed(' '), x.feed(0), x.feed(128));
        Check.due("bytes", 160, x.count(11));
        Check.due("end", 160, x.end(159));
        Check.due("feed", "160 -3", x.feed('<'), x.feed('<'));
    }

    private static void ending() {
        ClauseDrafts x = new ClauseDrafts();
        Check.due("end", "0 -1 -1", x.end(0), x.end(1), x.end(-1));
        Check.feed(x, "<0a;>");
        Check.due("end", "-1 -1 5", x.end(6), x.end(-1), x.end(5));
        Check.due("end", "5 2", x.end(2), x.count(11));
        Check.feed(x, "b;>");
        Check.due("text", 1, x.text());
        Check.same("old draft", "0b;", Check.draft(x, 0));
        Check.feed(x, "<><");
        Check.due("end, then text", "3 0 0", x.end(2), x.text(), x.fault());
    }

    private static void readingGoodTexts() {
        ClauseDrafts x = new ClauseDrafts();
        Check.due("empty drafts", 0, Check.read(x, "<>"));
        Check.due("a full old draft", 8, Check.read(x, "<0;1;2;3;3;2;1;0;>"));
        Check.due("two full drafts", 16, Check.read(x, "<0;1;2;3;0;0;0;0;>0;0;0;0;0;0;1;2;"));
        Check.due("six words", 2, Check.read(x, "<0abcxyz;>0#0#1#2#7#8#9;"));
        Check.same("old draft", "0abcxyz;", Check.draft(x, 0));
        Check.same("new draft", "0#0#1#2#7#8#9;", Check.draft(x, 1));
        Check.due("codes", "1 26", x.word(0, 0, 0), x.word(0, 0, 5));
        Check.due("codes", "30 39", x.word(1, 0, 0), x.word(1, 0, 5));
        Check.due("blanks", 3, Check.read(x, "  <  0 a # 2 ; 1 ; > 0 # 1 a ;  "));
        Check.same("old draft", "0a#2;1;", Check.draft(x, 0));
        Check.same("new draft", "0#1a;", Check.draft(x, 1));
        Check.due("fault", 0, x.fault());
        StringBuilder longest = new StringBuilder("<0#0#0#0#0#0#0;");
        for (int i = 0; i < 4; i++) {
            longest.append("0#0#0#0#0#0#0;");
        }
        longest.append(">0#0#0#0#0#0#0;0#0#0#0#0#0#0;0#0#0#0#0#0#0;0#0#0#0#0#0#0;0#0#0#0#0#0#0;");
        while (longest.length() < 160) {
            longest.append(' ');
        }
        Check.due("160 bytes", 10, Check.read(x, longest.toString()));
    }

    private static void fault(String text, int place, int kind) {
        ClauseDrafts x = new ClauseDrafts();
        Check.due("text of " + text, -10 - place, Check.read(x, text));
        Check.due("fault of " + text, kind, x.fault());
        Check.due("bytes after " + text, 0, x.count(11));
    }

    private static void faultPlaces() {
        fault("a", 0, 2);
        fault(">", 0, 2);
        fault("  0", 2, 2);
        fault("<<", 1, 2);
        fault("<a", 1, 2);
        fault("<;", 1, 2);
        fault("<#", 1, 2);
        fault("<0>", 2, 2);
        fault("<0<", 2, 2);
        fault("<00", 2, 2);
        fault("<0#a", 3, 2);
        fault("<0##", 3, 2);
        fault("<0#;", 3, 2);
        fault("<0#>", 3, 2);
        fault("<0a1;", 3, 2);
        fault("<0#11;", 4, 2);
        fault("<0;;", 3, 2);
        fault("<0;<", 3, 2);
        fault("<0;>>", 4, 2);
        fault("<><", 2, 2);
        fault("<>;", 2, 2);
        fault("<>a", 2, 2);
        fault("<0A;>", 2, 1);
        fault("<0?", 2, 1);
        fault("\t<>", 0, 1);
        fault("<\n>", 1, 1);
        fault("<0`;>", 2, 1);
        fault("<0{;>", 2, 1);
        fault("</", 1, 1);
        fault("<:", 1, 1);
        fault("<=", 1, 1);
        fault("<0!", 2, 1);
        fault("<0#\"", 3, 1);
        fault("<0$", 2, 1);
        ClauseDrafts x = new ClauseDrafts();
        x.feed(0);
        Check.due("byte 0", "-10 1", x.text(), x.fault());
        x.feed('<');
        x.feed(127);
        Check.due("byte 127", "-11 1", x.text(), x.fault());
    }

    private static void faultsOfDepthAndRoom() {
        fault("<1", 1, 4);
        fault("<9", 1, 4);
        fault("<0;2", 3, 4);
        fault("<0;1;3", 5, 4);
        fault("<0;1;2;3;4", 9, 4);
        fault("<0;1;0;2", 7, 4);
        fault("<0;1;>1;", 6, 4);
        fault("<0;>0; 2", 7, 4);
        fault("<0;0;0;0;0;0;0;0;0", 17, 3);
        fault("<0;0;0;0;0;0;0;0;>0;0;0;0;0;0;0;0; 0;>", 35, 3);
        fault("<0abcdefg;>", 8, 5);
        fault("<0abcdef #1;>", 9, 5);
        fault("<0#1#2#3#4#5#6#", 14, 5);
        fault("<0#1#2#3#4#5#6z", 14, 5);
        fault("<0;>0abcdef;0abcdefa", 19, 5);
        ClauseDrafts x = new ClauseDrafts();
        Check.due("a ninth clause in all", 9, Check.read(x, "<0;0;0;0;>0;0;0;0;0;"));
        Check.due("six words twice", 2, Check.read(x, "<0abcdef;0abcdef;>"));
        Check.due("depths back to 0", 5, Check.read(x, "<0;1;2;3;0;>"));
    }

    private static void faultsAtTheEnd() {
        fault("", 0, 2);
        fault("   ", 3, 2);
        fault("<", 1, 2);
        fault("< ", 2, 2);
        fault("<0", 2, 2);
        fault("<0a", 3, 2);
        fault("<0#", 3, 2);
        fault("<0#1", 4, 2);
        fault("<0#1;", 5, 2);
        fault("<>0", 3, 2);
        fault("<>0ab ", 6, 2);
        fault("<>0#", 4, 2);
    }

    /** Where several kinds apply to a character the lowest one is told. */
    private static void orderOfKinds() {
        fault("A", 0, 1);
        fault("<0abcdefA", 8, 1);
        fault("<0abcdef>", 8, 2);
        fault("<0abcdef1", 8, 2);
        fault("<0;0;0;0;0;0;0;0;9", 17, 3);
        fault("<0;0;0;0;0;0;0;0;a", 17, 2);
        fault("<0;0;0;0;0;0;0;0;*", 17, 1);
        fault("<5*", 1, 4);
        fault("<0abcdefg*", 8, 5);
    }

    private static void whatTextLeaves() {
        ClauseDrafts x = Check.made("<0ab;>0abc;");
        Check.due("keep, sheet, head", "0 0 1 2", x.keep(0), x.keep(1), x.sheet(0, 1, 3), x.head(7));
        Check.due("keep, choose", "1 0", x.keep(1), x.choose(0, 1));
        Check.due("a fault", -11, Check.read(x, "<x>"));
        Check.due("fault", 2, x.fault());
        Check.same("drafts", "0ab;", Check.draft(x, 0));
        Check.same("drafts", "0abc;", Check.draft(x, 1));
        Check.due("choice and images stay", "1 2 3", x.change(0, 1), x.count(12), x.count(13));
        Check.due("an edit keeps the fault", "1 2", x.write(0, 0, 0, 1), x.fault());
        Check.due("the change is open", 0, x.change(0, 1));
        Check.due("choose", 0, x.choose(0, 2));
        Check.due("a good text", 2, Check.read(x, "<0ab;>0abc;"));
        Check.due("fault", 0, x.fault());
        Check.due("the change is open again", 0, x.change(0, 1));
        Check.due("images are empty, the sheet stays", "0 3", x.count(12), x.count(13));
        Check.due("back", "-2 -2", x.back(0), x.back(1));
        Check.due("the head stays", 7, x.head(7));
    }
}
