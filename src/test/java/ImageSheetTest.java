/** Promises 29 to 34: images, sheets and counts. */
final class ImageSheetTest {
    private static final int FAR = Integer.MAX_VALUE, LOW = Integer.MIN_VALUE;

    private ImageSheetTest() {
    }

    public static void main(String[] args) {
        keeping();
        goingBack();
        imagesStandAlone();
        makingSheets();
        laying();
        pasting();
        pastingWrongly();
        charsAndInts();
        counting();
        Check.finish();
    }

    private static void keeping() {
        ClauseDrafts x = new ClauseDrafts();
        Check.due("keep out of range", "-1 -1 -1 -1", x.keep(-1), x.keep(2), x.keep(FAR), x.keep(LOW));
        Check.due("keep", "0 1 0 2", x.keep(1), x.keep(1), x.keep(0), x.count(12));
        Check.due("back to nothing", "0 0", x.back(0), x.back(1));
    }

    private static void goingBack() {
        ClauseDrafts x = Check.made("<0abcd;>0xacyd;");
        Check.due("back out of range", "-1 -1 -1 -1", x.back(-1), x.back(2), x.back(FAR), x.back(LOW));
        Check.due("back to an empty image", "-2 -2", x.back(0), x.back(1));
        x.choose(0, 1);
        x.choose(2, 2);
        x.head(5);
        x.choose(0, 1);
        x.choose(2, 2);
        Check.due("keep", "0 1", x.keep(0), x.count(12));
        Check.due("edits", "5 0 1 2", x.head(9), x.strike(1, 0), x.add(0, 0), x.add(0, 1));
        Check.due("back", 3, x.back(0));
        Check.due("choices", "1 0 2", x.change(0, 1), x.change(1, 1), x.change(2, 1));
        Check.same("old draft", "0abcd;", Check.draft(x, 0));
        Check.same("new draft", "0xacyd;", Check.draft(x, 1));
        Check.same("shown by way 0", "0xabcd;", Check.shown(x, 0));
        Check.same("shown by way 1", "0xacd;", Check.shown(x, 1));
        Check.due("the image stays", "1 3", x.count(12), x.back(0));
        Check.due("head", 5, x.head(5));
        Check.due("all are open", 3, x.count(1));
    }

    private static void imagesStandAlone() {
        ClauseDrafts x = Check.made("<0a;>0b;");
        x.keep(0);
        x.write(0, 0, 0, 3);
        x.choose(0, 1);
        x.keep(1);
        Check.due("back", "1 1", x.back(0), x.word(0, 0, 0));
        Check.due("open", 0, x.change(0, 1));
        x.choose(0, 2);
        x.write(1, 0, 0, 4);
        x.insert(1, 0, 0, 4);
        Check.due("back", "1 3 1 1", x.back(1), x.word(0, 0, 0), x.change(0, 1), x.clause(1, 0, 1));
        Check.due("back", "1 1 0", x.back(0), x.word(0, 0, 0), x.change(0, 1));
        x.exchange();
        x.choose(0, 2);
        Check.due("keep in place of another", 1, x.keep(1));
        x.exchange();
        Check.due("back", "1 2 2", x.back(1), x.word(0, 0, 0), x.change(0, 1));
        x.decide(1);
        x.settle();
        Check.due("settling leaves images", "2 1", x.count(12), x.back(0));
    }

    private static void makingSheets() {
        ClauseDrafts x = new ClauseDrafts();
        Check.due("sheet out of range", "-1 -1 -1 -1 -1 -1", x.sheet(-1, 0, 1), x.sheet(4, 0, 1),
                x.sheet(0, -1, 1), x.sheet(0, 2, 1), x.sheet(0, 0, 21), x.sheet(0, 1, FAR));
        Check.due("a negative length", "-14 -14 -1 -1", x.sheet(0, 0, -1), x.sheet(3, 1, LOW),
                x.sheet(4, 0, -1), x.sheet(0, 2, -1));
        Check.due("none was made", "-4 -11 -11", x.count(13), x.lay(0, 0, 1), x.lay(3, 0, 1));
        Check.due("sheet", "1 0 1 20 1 7", x.sheet(0, 0, 0), x.count(13), x.sheet(0, 1, 20),
                x.count(13), x.sheet(0, 0, 7), x.count(13));
        Check.due("an error keeps the sheet", "-14 -1 7", x.sheet(0, 0, -1), x.sheet(0, 0, 21),
                x.count(13));
        x.add(1, 0);
        x.lay(0, 0, 5);
        Check.due("paste", 1, x.paste(0, 0, 0, 0, 1));
        Check.due("a new sheet has zeros", "1 -20", x.sheet(0, 0, 7), x.paste(0, 0, 0, 0, 1));
        x.lay(0, 6, 5);
        Check.due("also where it was shorter", "1 1 -20", x.sheet(0, 0, 2), x.sheet(0, 0, 7),
                x.paste(0, 0, 6, 0, 1));
    }

    private static void laying() {
        ClauseDrafts x = new ClauseDrafts();
        x.sheet(1, 1, 20);
        x.sheet(2, 0, 0);
        Check.due("lay out of range", "-1 -1 -1", x.lay(-1, 0, 1), x.lay(4, 0, 1), x.lay(LOW, 0, 1));
        Check.due("a missing sheet", "-11 -11 -11", x.lay(0, 0, 1), x.lay(3, -1, 1), x.lay(3, 99, 1));
        Check.due("no such element", "-13 -13 -13 -13 -13", x.lay(1, 20, 1), x.lay(1, -1, 1),
                x.lay(1, FAR, 1), x.lay(1, LOW, 1), x.lay(2, 0, 1));
        Check.due("lay", "1 1", x.lay(1, 0, 1), x.lay(1, 19, FAR));
    }

    private static void pasting() {
        ClauseDrafts x = Check.made("<0ab;>0abc;1xyz;");
        x.sheet(2, 1, 20);
        for (int i = 0; i < 20; i++) {
            x.lay(2, i, i < 10 ? i + 1 : 20 + i);
        }
        Check.due("paste", 6, x.paste(2, 1, 14, 1, 6));
        Check.same("new draft", "0abc;1#4#5#6#7#8#9;", Check.draft(x, 1));
        Check.due("paste", 2, x.paste(2, 1, 8, 0, 2));
        Check.same("new draft", "0ij;1#4#5#6#7#8#9;", Check.draft(x, 1));
        Check.due("paste of nothing", "0 0", x.paste(2, 1, 20, 1, 0), x.paste(2, 1, 0, 0, 0));
        Check.same("new draft", "0;1;", Check.draft(x, 1));
        Check.same("old draft", "0ab;", Check.draft(x, 0));
        Check.due("paste", "6 1 6", x.paste(2, 1, 0, 0, 6), x.paste(2, 1, 19, 1, 1), x.clause(1, 0, 1));
        Check.same("new draft", "0abcdef;1#9;", Check.draft(x, 1));
    }

    private static void pastingWrongly() {
        ClauseDrafts x = Check.made("<0;0;>0ab;");
        x.sheet(0, 0, 8);
        x.sheet(1, 1, 8);
        for (int i = 0; i < 8; i++) {
            x.lay(0, i, 1 + i);
            x.lay(1, i, 30 + i);
        }
        Check.due("paste out of range", "-1 -1 -1 -1 -1 -1", x.paste(-1, 0, 0, 0, 1),
                x.paste(4, 0, 0, 0, 1), x.paste(0, -1, 0, 0, 1), x.paste(0, 2, 0, 0, 1),
                x.paste(0, 0, 0, 1, 1), x.paste(0, 0, 0, -1, 1));
        Check.due("BAD comes first", "-1 -1 -1", x.paste(3, 2, 0, 0, 1), x.paste(3, 0, 0, 1, 1),
                x.paste(0, 1, -1, 1, -1));
        Check.due("a missing sheet", "-11 -11 -11", x.paste(2, 0, 0, 0, 1), x.paste(3, 1, -1, 0, 1),
                x.paste(3, 0, 0, 0, 99));
        Check.due("the other lane", "-12 -12 -12", x.paste(0, 1, 0, 0, 1), x.paste(1, 0, 99, 0, 1),
                x.paste(1, 0, 0, 0, -1));
        Check.due("an index out of range", "-13 -13 -13 -13 -13 -13", x.paste(0, 0, -1, 0, 1),
                x.paste(0, 0, 0, 0, -1), x.paste(0, 0, 3, 0, 6), x.paste(0, 0, 9, 0, 0),
                x.paste(0, 0, 0, 0, 7), x.paste(0, 0, 8, 0, 1));
        Check.due("sums that overflow", "-13 -13 -13 -13", x.paste(0, 0, FAR, 0, 1),
                x.paste(0, 0, 1, 0, FAR), x.paste(0, 0, FAR, 0, FAR), x.paste(0, 0, LOW, 0, LOW));
        int[] wrong = {0, 27, 28, 29, 40, -1, FAR, LOW, 65536 + 1};
        for (int v : wrong) {
            x.lay(1, 3, v);
            Check.due("paste of " + v, "-23 -20 -25 2 3", x.paste(1, 1, 0, 0, 6),
                    x.paste(1, 1, 3, 0, 1), wrongAtTheSixth(x), x.paste(1, 1, 1, 0, 2),
                    x.paste(1, 1, 4, 0, 3));
        }
        x.lay(1, 5, 0);
        Check.due("the first wrong one", "-23 -20", x.paste(1, 1, 0, 0, 6), x.paste(1, 1, 5, 0, 1));
        Check.same("new draft", "0#4#5#6;", Check.draft(x, 1));
    }

    private static int wrongAtTheSixth(ClauseDrafts x) {
        x.sheet(2, 1, 6);
        for (int i = 0; i < 5; i++) {
            x.lay(2, i, 26);
        }
        return x.paste(2, 1, 0, 0, 6);
    }

    private static void charsAndInts() {
        ClauseDrafts x = Check.made("<>0;");
        x.sheet(0, 0, 4);
        x.lay(0, 0, 65536 + 26);
        x.lay(0, 1, -65536 + 30);
        x.lay(0, 2, LOW + 1);
        x.lay(0, 3, -1);
        Check.due("the lowest bits of chars", "3 26 30 1", x.paste(0, 0, 0, 0, 3), x.word(1, 0, 0),
                x.word(1, 0, 1), x.word(1, 0, 2));
        Check.due("-1 is 65535", -23, x.paste(0, 0, 0, 0, 4));
        x.sheet(0, 1, 1);
        x.lay(0, 0, 65536 + 26);
        Check.due("all bits of ints", -20, x.paste(0, 1, 0, 0, 1));
    }

    private static void counting() {
        ClauseDrafts x = Check.made("<0ab;1c#3;0d;0#2e;>0ab;0d;1cx#3;0#1e;");
        Check.due("changes", "2 2 0 0 3", x.count(0), x.count(1), x.count(2), x.count(3), x.count(4));
        Check.due("kinds", "1 1 0 0 0", x.count(5), x.count(6), x.count(7), x.count(8), x.count(9));
        Check.due("renumbered, bytes, images, sheet", "1 0 0 -4", x.count(10), x.count(11),
                x.count(12), x.count(13));
        Check.due("count out of range", "-1 -1 -1 -1", x.count(-1), x.count(14), x.count(FAR),
                x.count(LOW));
        x.choose(0, 1);
        x.choose(1, 2);
        Check.due("choices", "0 1 1", x.count(1), x.count(2), x.count(3));
        x.choose(0, 2);
        x.keep(1);
        x.feed('<');
        x.sheet(0, 1, 20);
        Check.due("choices, bytes, images, sheet", "0 0 2 1 1 20", x.count(1), x.count(2),
                x.count(3), x.count(11), x.count(12), x.count(13));
        x = Check.made("<0ab#2;0c#1;0def;>0def;0ab#0;0cx#2;");
        Check.due("renumbered by a pair and by a move", "2 0 1 1 2", x.count(10), x.count(9),
                x.count(7), x.count(8), x.count(4));
        x.head(2);
        Check.due("found anew", "2 0 1 1 2", x.count(10), x.count(9), x.count(7), x.count(8), x.count(4));
        x = Check.made("<0a#0#1;0b;>0a#0#0;0b;");
        Check.due("a turn is not renumbered, nor is a number that stays", "0 1", x.count(10), x.count(9));
        x = Check.made("<0abm#0;>0mxy#0z;");
        Check.due("stretches", "3 3 1", x.count(0), x.count(8), x.count(4));
    }
}
