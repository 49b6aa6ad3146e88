/** DRAFTS, THE TAPE, COMPARING and SHEETS of the document's description. */
final class DescriptionEdges {
    private static final int FAR = Check.FAR, LOW = Check.LOW;
    private static final String EIGHT = "0;0;0;0;0;0;0;0;";

    private DescriptionEdges() {
    }

    static void run() {
        Check.section("DRAFTS");
        numbersOfClauses();
        depths();
        branchesParentsRows();
        wordsAndReferences();
        heads();
        Check.section("THE TAPE");
        tape();
        grammar();
        meaning();
        blanks();
        everyByteInEveryPlace();
        depthsInTexts();
        firstFaultFromTheLeft();
        textsThatEndTooEarly();
        Check.section("COMPARING");
        comparing();
        Check.section("SHEETS");
        sheets();
        findings();
    }

    private static void numbersOfClauses() {
        Check.sentence("DRAFTS. There are two drafts: side 0 is the old one, side 1 the new one.");
        ClauseDrafts x = Check.made("<0a;>0b;0c;");
        Check.due("clauses of both, words of both", "1 2 1 2", x.draft(0, 0), x.draft(1, 0),
                x.word(0, 0, 0), x.word(1, 0, 0));
        Check.each("no other side", -1, x.draft(-1, 0), x.draft(2, 0), x.draft(FAR, 0), x.draft(LOW,
                0));
        Check.sentence("A draft has at most 8 clauses, numbered from 0 in their order, at first"
                + " none.");
        x = new ClauseDrafts();
        Check.due("at first none", "0 0 -1 -1", x.draft(0, 0), x.draft(1, 0), x.clause(0, 0, 0),
                x.clause(1, 0, 0));
        for (int side = 0; side <= 1; side++) {
            for (int c = 0; c < 8; c++) {
                Check.due("the clause before it is added", -1, x.clause(side, c, 1));
                Check.due("add", c, x.add(side, 0));
                x.insert(side, c, 0, 1 + c);
                Check.due("its word", 1 + c, x.word(side, c, 0));
            }
            Check.due("a ninth", "-3 8 -1", x.add(side, 0), x.draft(side, 0), x.clause(side, 8, 0));
        }
        Check.due("the same by a text", "16 -27 3", Check.read(x, "<" + EIGHT + ">" + EIGHT),
                Check.read(x, "<" + EIGHT + "0;>"), x.fault());
    }

    private static void depths() {
        Check.sentence("Each clause has a depth: the first one has depth 0,");
        ClauseDrafts x = new ClauseDrafts();
        Check.each("first ones", -1, x.add(0, -1), x.add(0, 1), x.add(1, 3), x.add(1, 4));
        Check.sentence("any other one a depth from 0 to 1 more than that of the clause before it,"
                + " but at most 3.");
        for (int before = 0; before <= 3; before++) {
            for (int depth = -1; depth <= 5; depth++) {
                x = new ClauseDrafts();
                for (int c = 0; c <= before; c++) {
                    x.add(1, c);
                }
                boolean may = depth >= 0 && depth <= 3 && depth <= before + 1;
                Check.due("add of depth " + depth + " behind depth " + before,
                        may ? before + 1 : -1, x.add(1, depth));
            }
        }
    }

    private static String all(ClauseDrafts x, int what) {
        StringBuilder all = new StringBuilder();
        for (int c = 0; c < x.draft(0, 0); c++) {
            all.append(c == 0 ? "" : " ").append(x.clause(0, c, what));
        }
        return all.toString();
    }

    private static void branchesParentsRows() {
        ClauseDrafts x = Check.made("<0;1;2;3;3;2;1;0;>");
        ClauseDrafts y = Check.made("<0;1;0;1;2;1;2;>");
        Check.sentence("The branch of a clause consists of the clause and of those behind it,"
                + " up to the next one whose depth is not greater than its own.");
        Check.same("sizes of branches", "7 5 3 1 1 1 1 1", all(x, 4));
        Check.same("sizes of branches", "2 1 5 2 1 2 1", all(y, 4));
        Check.sentence("The parent of a clause with a depth above 0 is the nearest clause before it"
                + " whose depth is smaller by 1.");
        Check.same("parents", "-4 0 1 2 2 1 0 -4", all(x, 2));
        Check.same("parents", "-4 0 -4 2 3 2 5", all(y, 2));
        Check.sentence("A row consists of all clauses with the same parent, or of all clauses of"
                + " depth 0, in their order.");
        // a clause can be swapped unless it is the last one of its row
        int[] want = {5, -4, -4, 5, -4, -4, -4};
        for (int c = 0; c < 7; c++) {
            ClauseDrafts z = Check.made("<0;1;0;1;2;1;2;>");
            Check.due("swap of " + c, want[c], z.swap(0, c));
        }
    }

    private static void wordsAndReferences() {
        Check.sentence("A clause has at most 6 words, numbered from 0.");
        ClauseDrafts x = Check.made("<0;>");
        for (int w = 0; w < 6; w++) {
            Check.due("no such word, insert, the word", "-4 " + (w + 1) + " " + (10 + w),
                    x.word(0, 0, w), x.insert(0, 0, w, 10 + w), x.word(0, 0, w));
        }
        Check.due("a seventh", "-3 -4 6", x.insert(0, 0, 6, 1), x.word(0, 0, 6), x.clause(0, 0, 1));
        Check.sentence("A word is a code: 1 to 26 is a letter, a to z;"
                + " 30 to 39 is a reference to the clause 0 to 9 of the same draft.");
        for (int code = -1; code <= 41; code++) {
            boolean is = code >= 1 && code <= 26 || code >= 30 && code <= 39;
            x = Check.made("<0a;>");
            Check.due("write of " + code, is ? 1 : -1, x.write(0, 0, 0, code));
            Check.due("references, if it is " + code, code >= 30 && code <= 39 ? 1 : 0, x.draft(0,
                    2));
        }
        Check.sentence("A reference dangles if there is no such clause.");
        for (int clauses = 1; clauses <= 8; clauses++) {
            for (int side = 0; side <= 1; side++) {
                x = new ClauseDrafts();
                for (int c = 0; c < clauses; c++) {
                    x.add(side, 0);
                }
                x.insert(side, 0, 0, 30);
                for (int to = 0; to <= 9; to++) {
                    x.write(side, 0, 0, 30 + to);
                    Check.due("to " + to + " of " + clauses, to < clauses ? 0 : 1, x.draft(side,
                            3));
                    Check.due("references", 1, x.draft(side, 2));
                }
            }
        }
    }

    private static void heads() {
        Check.sentence("The head is a number from 0 to 9, 2 at first.");
        ClauseDrafts x = new ClauseDrafts();
        Check.due("heads", "-1 2 0 9 -1 9", x.head(-1), x.head(0), x.head(9), x.head(9),
                x.head(10), x.head(2));
    }

    private static void tape() {
        Check.sentence("THE TAPE has at most 160 bytes, and is empty at first.");
        ClauseDrafts x = new ClauseDrafts();
        Check.due("empty: a text ends too early, at 0", "0 -10 2", x.count(11), x.text(),
                x.fault());
        for (int i = 1; i <= 160; i++) {
            Check.due("feed", i, x.feed(i == 159 ? '<' : i == 160 ? '>' : ' '));
        }
        Check.due("feed of a full tape", "-3 160", x.feed(';'), x.count(11));
        Check.due("it is read to its last byte", "0 0 0", x.text(), x.fault(), x.count(11));
        Check.due("there is room again", 1, x.feed(' '));
    }

    private static void good(String text, String old, String fresh) {
        ClauseDrafts x = Check.made(text);
        Check.same("the old draft of " + text, old, Check.draft(x, 0));
        Check.same("the new draft of " + text, fresh, Check.draft(x, 1));
    }

    private static void grammar() {
        Check.sentence("It is read as a text with this grammar (braces mean repetition, also zero"
                + " times):");
        good("<>", "", "");
        good("<0;>0;", "0;", "0;");
        Check.sentence("text = \"<\" { clause } \">\" { clause }");
        good("<0;0;>", "0;0;", "");
        good("<>0;0;0;", "", "0;0;0;");
        Check.sentence("clause = digit { word } \";\"");
        good("<0a;0;0abc;>", "0a;0;0abc;", "");
        Check.sentence("word = letter | \"#\" digit");
        good("<0a#0;0#9z;0#1#2;>", "0a#0;0#9z;0#1#2;", "");
    }

    private static void meaning() {
        Check.sentence("The clauses behind \"<\" are those of the old draft, the clauses behind"
                + " \">\""
                + " those of the new one.");
        good("<0a;1b;>0c;", "0a;1b;", "0c;");
        Check.sentence("The digit of a clause is its depth; a letter a to z is the word 1 to 26,"
                + " and # with the digit d is the word 30 + d.");
        ClauseDrafts x = Check.made("<0;1;2;3;>");
        Check.same("depths", "0 1 2 3", all(x, 0));
        for (int code = 1; code <= 26; code++) {
            x = Check.made("<0" + (char) ('a' + code - 1) + ";>");
            Check.due("a letter", "1 " + code, x.clause(0, 0, 1), x.word(0, 0, 0));
        }
        for (int d = 0; d <= 9; d++) {
            x = Check.made("<>0#" + d + ";");
            Check.due("a reference", "1 " + (30 + d), x.clause(1, 0, 1), x.word(1, 0, 0));
        }
    }

    private static void blanks() {
        Check.sentence("Blanks (32) may stand before, between and after the characters.");
        String text = "<0a#1;1b;>0#0;";
        for (int at = 0; at <= text.length(); at++) {
            good(text.substring(0, at) + "  " + text.substring(at), "0a#1;1b;", "0#0;");
        }
        for (int c : new int[] {0, 9, 10, 13, 31, 33, 127}) {
            ClauseDrafts x = new ClauseDrafts();
            x.feed(c);
            Check.feed(x, "<>");
            Check.due("no blank: " + c, "-10 1", x.text(), x.fault());
        }
    }

    private static void fault(String text, int place, int kind) {
        ClauseDrafts x = new ClauseDrafts();
        Check.due("text of " + text, -10 - place, Check.read(x, text));
        Check.due("fault of " + text, kind, x.fault());
    }

    /** May is a text of the characters that may stand behind the beginning. */
    private static void every(String beginning, String may, String otherKind, int kind) {
        for (int c = 0; c <= 127; c++) {
            if (c == ' ' || may.indexOf(c) >= 0) {
                continue;
            }
            boolean isNone = "abcdefghijklmnopqrstuvwxyz0123456789<>#;".indexOf(c) < 0;
            int due = isNone ? 1 : otherKind.indexOf(c) >= 0 ? kind : 2;
            fault(beginning + (char) c, beginning.length(), due);
        }
        for (char c : may.toCharArray()) {
            ClauseDrafts x = new ClauseDrafts();
            int got = Check.read(x, beginning + c);
            boolean isWhole = got >= 0 && x.fault() == 0;
            boolean endsEarly = got == -10 - beginning.length() - 1 && x.fault() == 2;
            Check.holds(c + " may stand behind " + beginning, isWhole || endsEarly);
        }
    }

    private static void everyByteInEveryPlace() {
        String letters = "abcdefghijklmnopqrstuvwxyz";
        String digits = "0123456789";
        Check.sentence("At each character that is not a blank the kinds are checked in this"
                + " order:");
        Check.sentence("1: it is none of the characters a to z, 0 to 9, <, >, #, and ;");
        Check.sentence("2: it must not stand there");
        every("", "<", "", 0);
        every("<", "0>", "123456789", 4);
        every("<>", "0", "123456789", 4);
        every("<0", letters + "#;", "", 0);
        every("<0a", letters + "#;", "", 0);
        every("<0#1", letters + "#;", "", 0);
        every("<0#", digits, "", 0);
        every("<>0#", digits, "", 0);
        every("<0;", "01>", "23456789", 4);
        every("<0;>0;", "01", "23456789", 4);
        Check.sentence("3: it is the depth of a ninth clause of a draft");
        every("<" + EIGHT, ">", digits, 3);
        every("<>" + EIGHT, "", digits, 3);
        every("<" + EIGHT + ">" + EIGHT, "", digits, 3);
        every("<" + EIGHT + ">", "0", "123456789", 4);
        every("<" + EIGHT.substring(2), "01>", "23456789", 4);
        Check.sentence("5: it is a letter or a # that begins the seventh word of a clause");
        every("<0abcdef", ";", letters + "#", 5);
        every("<0#0#1#2#3#4#5", ";", letters + "#", 5);
        every("<0abcdef;>0a#0b#0c#0", ";", letters + "#", 5);
        every("<0abcde", letters + "#;", "", 0);
        every("<0abcde#", digits, "", 0);
        every("<0abcdef;0", letters + "#;", "", 0);
    }

    private static void depthsInTexts() {
        Check.sentence("4: it is the depth of a clause that must not have this depth");
        every("<0;1;", "012>", "3456789", 4);
        every("<0;1;2;", "0123>", "456789", 4);
        every("<0;1;2;3;", "0123>", "456789", 4);
        every("<0;1;2;0;", "01>", "23456789", 4);
        every("<0;1;2;3;>", "0", "123456789", 4);
        every("<>0;1;2;3;2;", "0123", "456789", 4);
    }

    private static void firstFaultFromTheLeft() {
        Check.sentence("The fault of a text is found by reading it from left to right.");
        fault("<0;2;A>", 3, 4);
        fault("<0abcdefg;9?", 8, 5);
        fault("0?", 0, 2);
        fault("<0a;>>*", 5, 2);
        Check.sentence("It has a kind and a place, which is the index of a byte.");
        fault("  <  0  *", 8, 1);
        fault(" ".repeat(159) + "?", 159, 1);
    }

    private static void textsThatEndTooEarly() {
        Check.sentence("If the text ends too early, this is a fault of kind 2, and its place is the"
                + " length of the tape.");
        String text = "<0a#1;1;>0b#2;";
        for (int length = 0; length < text.length(); length++) {
            boolean isWhole = length == 9;
            if (!isWhole) {
                fault(text.substring(0, length), length, 2);
                fault(text.substring(0, length) + "   ", length + 3, 2);
            }
        }
        good(text.substring(0, 9), "0a#1;1;", "");
        fault(" ".repeat(160), 160, 2);
        fault(" ".repeat(159) + "<", 160, 2);
    }

    /** Accepts everything, acts, and looks whether all changes are open again. */
    private static void opens(String call, ClauseDrafts x, int got, int want) {
        Check.due(call, want, got);
        Check.holds("there are changes after " + call, x.count(0) > 0);
        Check.due("open ones after " + call, x.count(0), x.count(1));
        x.decide(1);
        Check.due("open ones after decide", 0, x.count(1));
    }

    private static void comparing() {
        Check.sentence("COMPARING. Many methods say that the drafts are compared again: everything"
                + " from"
                + " COSTS on is found anew then, and all changes are open, even if nothing is"
                + " different.");
        ClauseDrafts x = Check.made("<0a;0b;>0ab;0c;1d;");
        x.decide(1);
        Check.due("open ones after decide", 0, x.count(1));
        opens("head", x, x.head(2), 2);
        opens("write", x, x.write(0, 0, 0, 1), 1);
        opens("insert", x, x.insert(1, 1, 0, 3), 2);
        opens("erase", x, x.erase(1, 1, 0), 1);
        opens("add", x, x.add(1, 0), 3);
        opens("strike", x, x.strike(1, 3), 3);
        opens("swap", x, x.swap(0, 0), 1);
        opens("swap", x, x.swap(0, 0), 1);
        opens("exchange", x, x.exchange(), x.cost(0));
        opens("exchange", x, x.exchange(), x.cost(0));
        x.sheet(0, 0, 2);
        x.lay(0, 0, 1);
        x.lay(0, 1, 2);
        opens("paste of the same words", x, x.paste(0, 0, 0, 0, 2), 2);
        x.decide(0);
        x.decide(2);
        opens("settle of what the old draft is", x, x.settle(), 2);
        opens("text", x, Check.read(x, "<0a;>0b;"), 2);
        Check.due("calls that do not compare", "1 1 0 1 1 0 -1 -4", x.feed(' '), x.end(0),
                x.keep(0),
                x.sheet(0, 1, 3), x.lay(0, 0, 1), x.fault(), x.head(10), x.swap(0, 0));
        Check.due("open ones after them", 0, x.count(1));
        foundAnew();
        nothingIsLeftOfTheComparisonBefore();
    }

    /** Costs, pairs, changes and what is shown, each after an edit that makes it different. */
    private static void foundAnew() {
        ClauseDrafts x = Check.made("<0abc;>0abc;");
        Check.due("cost, pairs, changes", "0 1 0", x.cost(0), x.count(4), x.count(0));
        x.insert(1, 0, 3, 4);
        Check.due("cost, pairs, changes", "1 1 1", x.cost(0), x.count(4), x.count(0));
        Check.same("shown", "0abcd;", Check.shown(x, 1));
        x.strike(1, 0);
        Check.due("cost, pairs, changes", "5 0 1", x.cost(0), x.count(4), x.count(0));
        Check.due("same, kept, fate", "-4 -4 1", x.clause(0, 0, 5), x.kept(0, 0, 0), x.clause(0, 0,
                6));
        Check.same("shown", "", Check.shown(x, 1));
        x.head(9);
        Check.due("weight, cost", "12 12 12", x.clause(0, 0, 3), x.cost(0), x.cost(2));
        x = Check.made("<0#1a;0bc;0mno;>0mno;0#2;0bc;");
        Check.due("sums, renumbered ones, moves", "11 1 5 5 10 1 1", x.cost(0), x.cost(1), x.cost(2),
                x.cost(3), x.cost(4), x.count(10), x.count(7));
        x.head(2);
        Check.due("not twice", "11 1 5 5 10 1 1", x.cost(0), x.cost(1), x.cost(2), x.cost(3),
                x.cost(4), x.count(10), x.count(7));
    }

    /** There were more steps and changes before; what is left of them must not count. */
    private static void nothingIsLeftOfTheComparisonBefore() {
        ClauseDrafts x = Check.made("<0apb;>0aqbr;");
        Check.due("two stretches, then one", "2 3 1", x.count(0), x.erase(1, 0, 3), x.count(0));
        Check.same("shown by way 0", "0apb;", Check.shown(x, 0));
        Check.same("shown by way 1", "0aqb;", Check.shown(x, 1));
        x = Check.made("<0ab;0cd;0x;>0ab;0cd;");
        x.strike(0, 2);
        x.strike(0, 1);
        x.write(1, 1, 0, 24);
        x.erase(1, 1, 1);
        Check.due("added, not moved", "1 1 0 1 -4", x.count(0), x.count(6), x.count(7),
                x.clause(1, 1, 6), x.clause(1, 1, 5));
        x = Check.made("<0ab;0cd;>0ab;0cd;0x;");
        x.strike(1, 2);
        x.strike(1, 1);
        x.write(0, 1, 0, 24);
        x.erase(0, 1, 1);
        Check.due("removed, not moved", "1 1 0 1 -4", x.count(0), x.count(5), x.count(7),
                x.clause(0, 1, 6), x.clause(0, 1, 5));
    }

    private static void sheets() {
        Check.sentence("SHEETS. There are four sheets, 0 to 3.");
        ClauseDrafts x = Check.made("<>0;");
        Check.due("sheets", "-1 1 1 1 1 -1", x.sheet(-1, 0, 1), x.sheet(0, 0, 1), x.sheet(1, 1, 1),
                x.sheet(2, 0, 1), x.sheet(3, 1, 1), x.sheet(4, 0, 1));
        for (int k = 0; k < 4; k++) {
            x.lay(k, 0, 5 + k);
        }
        for (int k = 0; k < 4; k++) {
            Check.due("each has its own element", "1 " + (5 + k), x.paste(k, k % 2, 0, 0, 1),
                    x.word(1, 0, 0));
        }
        Check.sentence("A sheet is missing, as at first,");
        ClauseDrafts y = Check.made("<>0;");
        for (int k = 0; k < 4; k++) {
            Check.due("missing", "-11 -11 -11 -4", y.lay(k, 0, 1), y.paste(k, 0, 0, 0, 0),
                    y.paste(k, 1, 0, 0, 0), y.count(13));
        }
        Check.sentence("or it has 0 to 20 elements of a type:");
        Check.due("no elements", "1 0 -13 0", x.sheet(0, 1, 0), x.count(13), x.lay(0, 0, 1),
                x.paste(0, 1, 0, 0, 0));
        Check.due("20 elements", "1 20 1 -13 -1 20", x.sheet(0, 1, 20), x.count(13), x.lay(0, 19,
                1),
                x.lay(0, 20, 1), x.sheet(0, 1, 21), x.count(13));
        Check.sentence("lane 0 are chars (0 to 65535), lane 1 are ints.");
        int[] values = {65536 + 7, -65536 + 7, LOW + 7, FAR - 65535 + 7};
        for (int v : values) {
            x.sheet(0, 0, 1);
            x.lay(0, 0, v);
            Check.due("a char of " + v, "1 7", x.paste(0, 0, 0, 0, 1), x.word(1, 0, 0));
            x.sheet(0, 1, 1);
            x.lay(0, 0, v);
            Check.due("an int of " + v, -20, x.paste(0, 1, 0, 0, 1));
        }
        Check.each("no other lane", -1, x.sheet(0, -1, 1), x.sheet(0, 2, 1), x.paste(0, 2, 0, 0, 0),
                x.paste(0, -1, 0, 0, 0));
    }

    private static void findings() {
        Check.sentence("The findings about sheets are numbered, and checked in this order: 1 the"
                + " sheet is"
                + " missing, 2 it has the other lane, 3 an index is out of range, 4 a length is"
                + " negative.");
        ClauseDrafts x = Check.made("<>0;");
        x.sheet(1, 0, 3);
        Check.due("1 before 3", "-11 -11 -11 -11", x.lay(0, -1, 1), x.lay(0, 20, 1),
                x.paste(0, 0, -1, 0, 0), x.paste(0, 1, 0, 0, -1));
        Check.due("2 before 3", "-12 -12 -12", x.paste(1, 1, -1, 0, 0), x.paste(1, 1, 4, 0, 0),
                x.paste(1, 1, 0, 0, 7));
        Check.due("3", "-13 -13 -13 -13", x.lay(1, -1, 1), x.lay(1, 3, 1), x.paste(1, 0, -1, 0, 0),
                x.paste(1, 0, 4, 0, 0));
        Check.due("4", "-14 -14 -14", x.sheet(0, 0, -1), x.sheet(1, 1, LOW), x.sheet(3, 0, -20));
    }
}
