/** Promises 29 to 34, sentence by sentence, and the number of calls that an object is made for. */
final class SheetEdges {
    private static final int FAR = Check.FAR, LOW = Check.LOW;

    private SheetEdges() {
    }

    static void run() {
        Check.section("Promise 29");
        keep();
        Check.section("Promise 30");
        back();
        Check.section("Promise 31");
        sheet();
        Check.section("Promise 32");
        lay();
        Check.section("Promise 33");
        paste();
        pasteOutOfRange();
        pasteOfNoWords();
        Check.section("Promise 34");
        count();
    }

    private static void keep() {
        Check.sentence("Copies both drafts, the head and the choices of all changes into an image,"
                + " in place of what it may contain.");
        ClauseDrafts x = Check.made("<0ab;>0ac;0d;");
        x.head(4);
        x.choose(0, 2);
        Check.due("keep", 0, x.keep(0));
        x.write(0, 0, 0, 39);
        x.erase(1, 0, 1);
        x.head(6);
        x.decide(1);
        Check.due("keep", 0, x.keep(1));
        contains(x, 0, "0ab;", "0ac;0d;", "2 0 4");
        contains(x, 1, "0#9b;", "0a;0d;", "1 1 6");
        x.back(0);
        x.choose(1, 1);
        Check.due("keep in place of it", 1, x.keep(1));
        contains(x, 1, "0ab;", "0ac;0d;", "2 1 4");
        contains(x, 0, "0ab;", "0ac;0d;", "2 0 4");
        Check.sentence("k: the image, 0 or 1");
        Check.each("images", -1, x.keep(-1), x.keep(2), x.keep(FAR), x.keep(LOW));
        Check.sentence("Returns 1 if it was not empty, otherwise 0; errors: BAD.");
        x = new ClauseDrafts();
        Check.due("keep", "0 1 0 1 2", x.keep(1), x.keep(1), x.keep(0), x.keep(0), x.count(12));
        Check.due("after a text", "0 0 0 0", Check.read(x, "<>"), x.count(12), x.keep(0),
                x.keep(1));
    }

    /** All drafts here have two changes. */
    private static void contains(ClauseDrafts x, int k, String old, String fresh,
            String choicesAndHead) {
        Check.due("back", 2, x.back(k));
        Check.same("the old draft", old, Check.draft(x, 0));
        Check.same("the new draft", fresh, Check.draft(x, 1));
        Check.due("choices, head", choicesAndHead, x.change(0, 1), x.change(1, 1), x.head(1));
    }

    private static void back() {
        Check.sentence("Restores both drafts and the head from an image; the drafts are compared"
                + " again, but then all changes get the"
                + " choices that the image contains.");
        ClauseDrafts x = Check.made("<0abcd;>0xacyd;");
        x.head(5);
        x.choose(0, 1);
        x.choose(2, 2);
        x.keep(1);
        x.strike(0, 0);
        x.head(0);
        Check.due("back", "3 1 0 2 5", x.back(1), x.change(0, 1), x.change(1, 1), x.change(2, 1),
                x.head(5));
        Check.same("shown", "0xabcd;", Check.shown(restored(x), 0));
        Check.sentence("The image stays.");
        Check.due("again", "3 1 1 0 2", x.back(1), x.count(12), x.change(0, 1), x.change(1, 1),
                x.change(2, 1));
        x.choose(1, 1);
        x.write(0, 0, 0, 9);
        Check.due("and it is not what is edited", "3 0 1", x.back(1), x.change(1, 1), x.word(0, 0,
                0));
        Check.sentence("k: the image, 0 or 1");
        Check.each("images", -1, x.back(-1), x.back(2), x.back(FAR), x.back(LOW));
        Check.sentence("Returns the number of changes; errors: BAD; STATE if the image is empty.");
        Check.due("an empty one", "-2 1", x.back(0), x.change(0, 1));
        x.keep(0);
        Check.due("not empty", "3 0 -2", x.back(0), Check.read(x, "<>"), x.back(0));
        x.keep(0);
        Check.due("no changes", "0 0", x.back(0), x.count(0));
    }

    private static ClauseDrafts restored(ClauseDrafts x) {
        x.back(1);
        return x;
    }

    private static void sheet() {
        Check.sentence("Creates a sheet, in place of the one that may be there. All elements are"
                + " 0.");
        ClauseDrafts x = Check.made("<>0;");
        for (int lane = 1; lane >= 0; lane--) {
            x.sheet(0, lane, 20);
            for (int i = 0; i < 20; i++) {
                x.lay(0, i, 5);
            }
            x.sheet(0, lane, 20);
            for (int i = 0; i < 20; i++) {
                Check.due("a 0 is no word", -20, x.paste(0, lane, i, 0, 1));
            }
        }
        x.lay(0, 2, 5);
        Check.due("shorter, longer: 0 again", "1 1 -20", x.sheet(0, 0, 2), x.sheet(0, 0, 3),
                x.paste(0, 0, 2, 0, 1));
        x.lay(0, 2, 5);
        Check.due("the other lane: 0 again", "1 -12 -20", x.sheet(0, 1, 3), x.paste(0, 0, 2, 0, 1),
                x.paste(0, 1, 2, 0, 1));
        Check.sentence("k: the sheet, 0 to 3");
        Check.each("sheets", -1, x.sheet(-1, 0, 1), x.sheet(4, 0, 1), x.sheet(FAR, 0, 1),
                x.sheet(LOW, 0, 1));
        Check.each("sheets", 1, x.sheet(0, 0, 1), x.sheet(1, 0, 1), x.sheet(2, 0, 1), x.sheet(3, 0,
                1));
        Check.sentence("lane: 0 for chars, 1 for ints");
        Check.each("lanes", -1, x.sheet(0, -1, 1), x.sheet(0, 2, 1), x.sheet(0, FAR, 1), x.sheet(0,
                LOW, 1));
        Check.sentence("n: the number of elements, at most 20");
        Check.each("too many", -1, x.sheet(0, 0, 21), x.sheet(0, 1, 22), x.sheet(0, 1, FAR));
        Check.due("the sheet is there still", 1, x.count(13));
        Check.due("numbers of elements", "1 20 1 0 1 1", x.sheet(0, 1, 20), x.count(13), x.sheet(0,
                0, 0), x.count(13),
                x.sheet(0, 0, 1), x.count(13));
        Check.sentence("Returns 1; errors: BAD; -14 (finding 4) if n is negative.");
        Check.due("negative", "-14 -14 -14 1", x.sheet(0, 0, -1), x.sheet(1, 1, -21), x.sheet(3, 0,
                LOW), x.count(13));
        Check.due("BAD and negative", "-1 -1 -1", x.sheet(-1, 0, -1), x.sheet(4, 1, LOW), x.sheet(0,
                2, -1));
        Check.due("a missing one stays missing", "-14 -4 -11", new ClauseDrafts().sheet(0, 0, -1),
                afterNegative(13), afterNegative(0));
    }

    private static int afterNegative(int what) {
        ClauseDrafts x = new ClauseDrafts();
        x.sheet(0, 0, -1);
        return what == 13 ? x.count(13) : x.lay(0, 0, 1);
    }

    private static void lay() {
        Check.sentence("Sets an element of a sheet.");
        ClauseDrafts x = Check.made("<>0;");
        x.sheet(1, 1, 20);
        Check.due("the first and the last one", "1 1 1 1 1 26", x.lay(1, 0, 1), x.lay(1, 19, 26),
                x.paste(1, 1, 0, 0, 1),
                x.word(1, 0, 0), x.paste(1, 1, 19, 0, 1), x.word(1, 0, 0));
        Check.sentence("k: the sheet, 0 to 3");
        Check.each("sheets", -1, x.lay(-1, 0, 1), x.lay(4, 0, 1), x.lay(FAR, 0, 1), x.lay(LOW, 0,
                1));
        Check.sentence("i: index of the element");
        Check.each("elements", -13, x.lay(1, -1, 1), x.lay(1, 20, 1), x.lay(1, FAR, 1), x.lay(1,
                LOW, 1));
        Check.sentence("v: the value; a char gets its lowest 16 bits");
        x.sheet(0, 0, 6);
        int[] values = {65536 + 26, -65536 + 30, LOW + 1, FAR - 65535 + 39, 65535, -1};
        for (int i = 0; i < 6; i++) {
            Check.due("lay", 1, x.lay(0, i, values[i]));
        }
        Check.due("the lowest bits", "4 26 30 1 39", x.paste(0, 0, 0, 0, 4), x.word(1, 0, 0),
                x.word(1, 0, 1), x.word(1, 0, 2),
                x.word(1, 0, 3));
        Check.due("65535 is no word", "-20 -20", x.paste(0, 0, 4, 0, 2), x.paste(0, 0, 5, 0, 1));
        for (int v : values) {
            x.lay(1, 7, v);
            Check.due("an int keeps all bits of " + v, -20, x.paste(1, 1, 7, 0, 1));
        }
        Check.sentence("Returns 1; errors: BAD if k is out of range; -11 (finding 1) if the sheet"
                + " is missing; -13 (finding 3) if"
                + " there is no such element.");
        Check.due("missing", "-11 -11 -11", x.lay(2, 0, 1), x.lay(3, -1, 1), x.lay(2, 20, 1));
        x.sheet(2, 0, 0);
        Check.due("without elements", "-13 -13", x.lay(2, 0, 1), x.lay(2, -1, 1));
        Check.due("BAD and missing", "-1 -1", new ClauseDrafts().lay(4, 0, 1),
                new ClauseDrafts().lay(-1, -1, 1));
    }

    /** Sheet 0 has the letters a to t, sheet 1 the references 0 to 9 twice. */
    private static ClauseDrafts sheets(String text) {
        ClauseDrafts x = Check.made(text);
        x.sheet(0, 0, 20);
        x.sheet(1, 1, 20);
        for (int i = 0; i < 20; i++) {
            x.lay(0, i, 1 + i);
            x.lay(1, i, 30 + i % 10);
        }
        return x;
    }

    private static void paste() {
        Check.sentence("Makes elements of a sheet the words of a clause of the new draft, in place"
                + " of those that it has. The drafts"
                + " are compared again.");
        ClauseDrafts x = sheets("<0abc;0p;>0xyz;1uvwxyz;");
        x.decide(1);
        Check.due("paste", "2 2", x.paste(0, 0, 0, 1, 2), x.clause(1, 1, 1));
        Check.same("the new draft", "0xyz;1ab;", Check.draft(x, 1));
        Check.due("open ones", x.count(0), x.count(1));
        Check.due("paste", "6 6", x.paste(1, 1, 0, 0, 6), x.clause(1, 0, 1));
        Check.same("the new draft", "0#0#1#2#3#4#5;1ab;", Check.draft(x, 1));
        Check.same("the old draft stays", "0abc;0p;", Check.draft(x, 0));
        Check.due("the sheets stay", "1 1 1 20", x.paste(0, 0, 0, 0, 1), x.word(1, 0, 0), x.paste(0,
                0, 19, 0, 1), x.word(1, 0, 0));
        Check.sentence("Returns n;");
        for (int n = 0; n <= 6; n++) {
            Check.due("paste of " + n, n + " " + n, x.paste(0, 0, 3, 1, n), x.clause(1, 1, 1));
            Check.due("paste of the last " + n, n + " " + n, x.paste(1, 1, 20 - n, 1, n),
                    x.clause(1, 1, 1));
        }
        x = sheets("<>0;0;0;0;0;0;0;0;");
        Check.due("into the eighth clause", "6 1 6", x.paste(0, 0, 0, 7, 6), x.word(1, 7, 0),
                x.word(1, 7, 5));
    }

    private static void pasteOutOfRange() {
        ClauseDrafts x = sheets("<0;0;0;>0a;0b;");
        Check.sentence("k: the sheet, 0 to 3");
        Check.each("sheets", -1, x.paste(-1, 0, 0, 0, 1), x.paste(4, 0, 0, 0, 1), x.paste(FAR, 0, 0,
                0, 1), x.paste(LOW, 0, 0, 0, 1));
        Check.sentence("lane: the lane that it must have, 0 or 1");
        Check.each("lanes", -1, x.paste(0, -1, 0, 0, 1), x.paste(0, 2, 0, 0, 1), x.paste(0, FAR, 0,
                0, 1), x.paste(0, LOW, 0, 0, 1));
        Check.sentence("c: a clause of the new draft");
        Check.each("clauses", -1, x.paste(0, 0, 0, -1, 1), x.paste(0, 0, 0, 2, 1), x.paste(0, 0, 0,
                FAR, 1), x.paste(0, 0, 0, LOW, 1));
        Check.sentence("errors: BAD if k, lane or c is none of these;");
        Check.each("BAD and a finding", -1, x.paste(4, 0, -1, 0, -1), x.paste(2, 2, 0, 0, 1),
                x.paste(2, 0, 0, 2, 1),
                x.paste(0, 1, 99, -1, 99));
        Check.sentence("-11 (finding 1) if the sheet is missing;");
        Check.each("missing", -11, x.paste(2, 0, 0, 0, 0), x.paste(3, 1, 0, 0, 0), x.paste(2, 1, -1,
                0, 1), x.paste(3, 0, 0, 0, 7));
        Check.sentence("-12 (finding 2) if it has the other lane;");
        Check.each("the other lane", -12, x.paste(0, 1, 0, 0, 0), x.paste(1, 0, 0, 0, 0), x.paste(0,
                1, -1, 0, 1), x.paste(1, 0, 0, 0, -1),
                x.paste(1, 0, 0, 0, 7));
        Check.sentence("f: index of the first element");
        Check.sentence("n: the number of elements");
        Check.sentence("-13 (finding 3) if f or n is negative, f + n is above the number of its"
                + " elements (computed without overflow), or"
                + " n is above 6;");
        Check.each("negative", -13, x.paste(0, 0, -1, 0, 1), x.paste(0, 0, -1, 0, 0), x.paste(0, 0,
                0, 0, -1), x.paste(0, 0, LOW, 0, 0),
                x.paste(0, 0, 0, 0, LOW), x.paste(0, 0, 3, 0, -1), x.paste(0, 0, -1, 0, 6));
        Check.each("behind the end", -13, x.paste(0, 0, 20, 0, 1), x.paste(0, 0, 21, 0, 0),
                x.paste(0, 0, 15, 0, 6), x.paste(0, 0, 19, 0, 2));
        Check.each("sums that overflow", -13, x.paste(0, 0, FAR, 0, 1), x.paste(0, 0, FAR, 0, 6),
                x.paste(0, 0, 1, 0, FAR),
                x.paste(0, 0, FAR, 0, FAR), x.paste(0, 0, LOW, 0, LOW), x.paste(0, 0, FAR, 0, 0),
                        x.paste(0, 0, LOW, 0, FAR));
        Check.each("above 6", -13, x.paste(0, 0, 0, 0, 7), x.paste(0, 0, 13, 0, 7), x.paste(0, 0, 0,
                0, 20));
        Check.same("the new draft stays", "0a;0b;", Check.draft(x, 1));
        Check.due("just inside", "6 0 1", x.paste(0, 0, 14, 0, 6), x.paste(0, 0, 20, 0, 0),
                x.paste(0, 0, 19, 0, 1));
        x.sheet(2, 1, 0);
        Check.due("a sheet without elements", "0 -13 -13", x.paste(2, 1, 0, 0, 0), x.paste(2, 1, 0,
                0, 1), x.paste(2, 1, 1, 0, 0));
    }

    private static void pasteOfNoWords() {
        Check.sentence("-20 minus i if one of these elements is neither 1 to 26 nor 30 to 39,"
                + " where i is the position, from 0, of the first"
                + " such one among them.");
        for (int at = 0; at < 6; at++) {
            for (int v : new int[] {0, 27, 28, 29, 40, -1, 65536 + 1, FAR, LOW}) {
                ClauseDrafts x = sheets("<>0a;");
                x.lay(1, 5 + at, v);
                Check.due("paste with " + v + " at " + at, -20 - at, x.paste(1, 1, 5, 0, 6));
                x.lay(1, 10, 0);
                Check.due("the first of two", -20 - at, x.paste(1, 1, 5, 0, 6));
                Check.due("those before it, those behind it", at + " " + (at == 5 ? 6 : 5),
                        x.paste(1, 1, 5, 0, at), x.paste(1, 1, 11, 0, at == 5 ? 6 : 5));
            }
            for (int v : new int[] {1, 26, 30, 39}) {
                ClauseDrafts x = sheets("<>0a;");
                x.lay(0, at, v);
                x.lay(1, at, v);
                Check.due("paste with " + v + " at " + at, "6 6 " + v, x.paste(0, 0, 0, 0, 6),
                        x.paste(1, 1, 0, 0, 6), x.word(1, 0, at));
            }
            for (int v : new int[] {0, 27, 28, 29, 40, -1, 65535, 65536}) {
                ClauseDrafts x = sheets("<>0a;");
                x.lay(0, at, v);
                Check.due("a char " + v + " at " + at, -20 - at, x.paste(0, 0, 0, 0, 6));
            }
        }
    }

    private static void count() {
        Check.sentence("Returns one of several numbers.");
        Check.sentence("what: 0 changes; 1 open ones; 2 accepted ones; 3 refused ones; 4 pairs; 5"
                + " to 9 changes of the kinds 0 to 4;");
        ClauseDrafts x = Check.made("<0abcd#0;1x;1q;0efgh;>0abcd#1y;0efgh;1q;1zz;");
        x.choose(0, 1);
        x.choose(1, 1);
        x.choose(2, 2);
        Check.due("changes", "5 2 2 1", x.count(0), x.count(1), x.count(2), x.count(3));
        Check.due("pairs, kinds", "2 1 1 1 1 1", x.count(4), x.count(5), x.count(6), x.count(7),
                x.count(8), x.count(9));
        Check.sentence("10 kept references whose old and new word lead to the same clause, which"
                + " has different numbers in the two drafts;");
        Check.due("none", 0, x.count(10));
        Check.due("by a pair", 1, Check.made("<0#1;0b;>0#2;0;0b;").count(10));
        Check.due("by a move", 1, Check.made("<0abcd#1;1q;0efghi;>0abcd#2;0efghi;1q;").count(10));
        Check.due("the same number", 0, Check.made("<0#1#0;0b;>0#1#0;0b;").count(10));
        Check.due("dangling ones", 0, Check.made("<0#8;0b;>0#9;0b;").count(10));
        Check.due("turns", 0, Check.made("<0#1;0b;>0#0;0b;").count(10));
        Check.due("six of them", 6, Check.made("<0#1#1#1#1#1#1;0b;>0#2#2#2#2#2#2;0;0b;").count(10));
        Check.due("those of a moved branch are not kept", 0,
                Check.made("<0abcd;1#2;0efghi;>0abcd;0efghi;1#1;").count(10));
        Check.sentence("11 bytes of the tape; 12 images that are not empty; 13 elements of sheet"
                + " 0");
        Check.due("bytes, images, elements", "0 0 -4", x.count(11), x.count(12), x.count(13));
        Check.due("feed, keep, sheet", "1 0 1 1", x.feed('<'), x.keep(1), x.sheet(0, 0, 0),
                x.sheet(1, 0, 9));
        Check.due("bytes, images, elements", "1 1 0", x.count(11), x.count(12), x.count(13));
        x.keep(0);
        x.sheet(0, 1, 20);
        Check.due("images, elements", "2 20", x.count(12), x.count(13));
        Check.sentence("Returns it; NONE for what = 13 if the sheet is missing; errors: BAD.");
        ClauseDrafts y = new ClauseDrafts();
        y.sheet(1, 0, 3);
        y.sheet(2, 0, 3);
        y.sheet(3, 0, 3);
        Check.due("others do not count", "-4 1 3", y.count(13), y.sheet(0, 0, 3), y.count(13));
        Check.each("no such number", -1, x.count(-1), x.count(14), x.count(FAR), x.count(LOW));
    }
}
