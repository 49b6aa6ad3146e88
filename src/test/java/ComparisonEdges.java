/** COSTS, THE PAIRING, CHANGES and SHOWN of the document's description. */
final class ComparisonEdges {
    /** The old root has seven children where the new draft has seven more roots. */
    private static final String FIFTEEN = "<0#0;1b;1c;1d;1e;1f;1g;1h#7;>0#0;0p;0q;0r;0s;0t;0u;0v#7;";

    private ComparisonEdges() {
    }

    static void run() {
        Check.section("COSTS");
        likeWords();
        weights();
        wordCosts();
        costsOfClauses();
        costsOfRows();
        Check.section("THE PAIRING");
        goingThroughRows();
        goingThroughChildren();
        goingThroughWords();
        likeBranches();
        moves();
        sameClauses();
        Check.section("CHANGES");
        sequence();
        stretches();
        turns();
        branches();
        choices();
        asManyChangesAsPossible();
        Check.section("SHOWN");
        ways();
        shownClauses();
        shownWords();
        shownReferences();
        asManyShownAsPossible();
    }

    private static int between(String one, String other) {
        return Check.made("<" + one + ">" + other).between(0, 0);
    }

    private static void likeWords() {
        Check.sentence("COSTS. Two words are alike if they are the same letter, or if both are"
                + " references.");
        Check.due("letters", "0 2 0 2", between("0a;", "0a;"), between("0a;", "0b;"),
                between("0z;", "0z;"), between("0y;", "0z;"));
        Check.due("references", "0 0 0", between("0#0;", "0#9;"), between("0#9;", "0#0;"),
                between("0#4;", "0#4;"));
        Check.due("a letter and a reference", "2 2 2", between("0z;", "0#0;"), between("0#0;",
                "0z;"),
                between("0a;", "0#9;"));
    }

    private static void weights() {
        Check.sentence("The weight of a branch is the head times the number of its clauses, plus"
                + " the number"
                + " of all their words.");
        ClauseDrafts x = Check.made("<0;1abcdef;>");
        Check.due("with head 2", "10 8", x.clause(0, 0, 3), x.clause(0, 1, 3));
        x.head(0);
        Check.due("with head 0", "6 6", x.clause(0, 0, 3), x.clause(0, 1, 3));
        x.erase(0, 1, 0);
        x.strike(0, 1);
        Check.due("nothing weighs nothing", "0 0", x.clause(0, 0, 3), x.cost(0));
        x = asFullAsPossible();
        x.head(9);
        Check.due("the heaviest branch", "120 120 15", x.clause(0, 0, 3), x.draft(0, 4), x.clause(0,
                7, 3));
    }

    /** Eight clauses with six words each in both drafts, all below the first one. */
    private static ClauseDrafts asFullAsPossible() {
        ClauseDrafts x = new ClauseDrafts();
        for (int c = 0; c < 8; c++) {
            x.add(0, Math.min(c, 1));
            x.add(1, Math.min(c, 1));
            for (int w = 0; w < 6; w++) {
                x.insert(0, c, w, 1 + w);
                x.insert(1, c, w, 7 + w);
            }
        }
        return x;
    }

    private static void wordCosts() {
        Check.sentence("The word cost of two clauses is the smallest number of words of both"
                + " together that"
                + " have to be left out so that the remaining words are alike, one by one, in"
                + " their order.");
        Check.due("no words", "0 6 6", between("0;", "0;"), between("0;", "0abcdef;"),
                between("0abcdef;", "0;"));
        Check.due("none remain, all remain", "12 0", between("0abcdef;", "0ghijkl;"),
                between("0abcdef;", "0abcdef;"));
        Check.due("in their order", "2 10 2", between("0ab;", "0ba;"), between("0abcdef;",
                "0fedcba;"),
                between("0abcdef;", "0fabcde;"));
        Check.due("the smallest number", "2 4", between("0aab;", "0aba;"), between("0abcabc;",
                "0cabdab;"));
    }

    private static void costsOfClauses() {
        Check.sentence("The cost of two clauses is their word cost plus the cost of the two rows"
                + " of their children.");
        ClauseDrafts x = Check.made("<0ab;1cd;2e;1f;>0b;1cd;0q;1cx;2e;2g;");
        // word cost 1; cd stays, e below it goes (3), f goes (3)
        Check.due("of the first ones", 7, x.between(0, 0));
        // word cost 3; below: cd and cx are a pair (2), e stays, g comes (3), f goes (3)
        Check.due("of the first one and q", 11, x.between(0, 2));
        Check.due("of clauses without children, also of other depths", "2 0 3", x.between(3, 5),
                x.between(2, 4), x.between(2, 1));
    }

    private static int rows(String text, int head) {
        ClauseDrafts x = Check.made(text);
        x.head(head);
        return x.cost(0);
    }

    private static void costsOfRows() {
        Check.sentence("The cost of two rows is the smallest possible sum of this kind: in their"
                + " order, each"
                + " clause of the first row is removed (this costs the weight of its branch), or"
                + " each of the second"
                + " one is added (the weight of its branch), or one of each form a pair (the cost"
                + " of these two"
                + " clauses).");
        Check.due("empty rows", "0 6 6", rows("<>", 2), rows("<0ab;1;>", 2), rows("<>0ab;0;", 2));
        Check.due("pairs, or removed and added", "8 8 6 4", rows("<0ab;0cd;>0cd;0ab;", 3),
                rows("<0ab;0cd;>0cd;0ab;", 2), rows("<0ab;0cd;>0cd;0ab;", 1),
                        rows("<0ab;0cd;>0cd;0ab;", 0));
        Check.due("without heads and words", "0 0 0", rows("<0;0;>", 0), rows("<>0;1;", 0),
                rows("<0;>0;0;", 0));
        ClauseDrafts x = asFullAsPossible();
        Check.due("the dearest pairs", "96 96 0 0", x.cost(0), x.cost(1), x.cost(2), x.cost(3));
        x.head(0);
        Check.due("pairs are preferred where all sums are the same", "96 96 8", x.cost(0),
                x.cost(1), x.count(4));
        x = Check.made("<0;0;0;0;0;0;0;0;>0a;0a;0a;0a;0a;0a;0a;0a;");
        x.head(9);
        Check.due("eight pairs", "8 8 8", x.cost(0), x.cost(1), x.count(4));
        Check.due("the eighth ones", "1 9 10", x.between(7, 7), x.clause(0, 7, 3), x.clause(1, 7,
                3));
    }

    private static String fates(ClauseDrafts x) {
        StringBuilder all = new StringBuilder();
        for (int side = 0; side <= 1; side++) {
            all.append(side == 0 ? "" : " / ");
            for (int c = 0; c < x.draft(side, 0); c++) {
                all.append(c == 0 ? "" : " ").append(x.clause(side, c, 6));
                all.append(':').append(x.clause(side, c, 5));
            }
        }
        return all.toString();
    }

    private static void fates(String text, int head, String want) {
        ClauseDrafts x = Check.made(text);
        x.head(head);
        Check.same("fates of " + text + " with head " + head, want, fates(x));
    }

    private static void goingThroughRows() {
        Check.sentence("THE PAIRING. The rows of depth 0 of both drafts are gone through from"
                + " their beginnings: if"
                + " the smallest sum can be reached by making the next clauses of both rows a"
                + " pair, they are a pair;");
        fates("<0a;0a;>0a;", 2, "0:0 1:-4 / 0:0");
        fates("<0a;>0a;0a;", 2, "0:0 / 0:0 1:-4");
        fates("<0ab;>0cd;", 0, "0:0 / 0:0");
        fates("<0ab;0cd;>0cd;0ab;", 2, "0:0 0:1 / 0:0 0:1");
        Check.sentence("otherwise, if it can be reached by removing the next clause of the old"
                + " row, its branch is"
                + " removed;");
        fates("<0ab;0cd;>0cd;0ab;", 1, "2:1 0:0 / 0:1 2:0");
        fates("<0ab;1x;0cdy;>0cdy;0ab;1x;", 0, "2:1 2:2 0:0 / 0:2 2:0 2:1");
        fates("<0ab;0cd;>0cd;", 2, "1:-4 0:0 / 0:1");
        fates("<0ab;>", 2, "1:-4 / ");
        Check.sentence("otherwise the branch of the next clause of the new row is added.");
        fates("<0cd;>0ab;0cd;", 2, "0:1 / 1:-4 0:0");
        fates("<>0ab;1c;", 2, " / 1:-4 1:-4");
        fates("<0abc;0d;>0d;0abc;", 1, "0:1 2:0 / 2:1 0:0");
    }

    private static void goingThroughChildren() {
        Check.sentence("For each pair the rows of their children are gone through in the same"
                + " way.");
        fates("<0abc;1d;1d;>0abc;1d;", 2, "0:0 0:1 1:-4 / 0:0 0:1");
        fates("<0pqr;1ab;1cd;>0pqr;1cd;1ab;", 1, "0:0 2:2 0:1 / 0:0 0:2 2:1");
        fates("<0;1;2;3;>0;1;2;3;3;", 2, "0:0 0:1 0:2 0:3 / 0:0 0:1 0:2 0:3 1:-4");
        fates("<0;1;2;3;0;1;2;3;>0;1;2;3;0;1;2;3;", 2, "0:0 0:1 0:2 0:3 0:4 0:5 0:6 0:7"
                + " / 0:0 0:1 0:2 0:3 0:4 0:5 0:6 0:7");
        // the children of clauses that are no pair are removed and added with them
        fates("<0abcd;1x;>0abcd;0efgh;1x;", 2, "0:0 1:-4 / 0:0 1:-4 1:-4");
    }

    private static String kept(String text) {
        ClauseDrafts x = Check.made(text);
        StringBuilder all = new StringBuilder();
        for (int side = 0; side <= 1; side++) {
            all.append(side == 0 ? "" : " / ");
            for (int w = 0; w < x.clause(side, 0, 1); w++) {
                all.append(w == 0 ? "" : " ").append(x.kept(side, 0, w));
            }
        }
        return all.toString();
    }

    private static void goingThroughWords() {
        Check.sentence("The words of a pair likewise: if the next words of both clauses are alike,"
                + " and the smallest"
                + " number of words left out can be reached with them, they are kept;");
        Check.same("the first of several", "0 -4 / 0", kept("<0aa;>0a;"));
        Check.same("the first of several", "0 / 0 -4", kept("<0a;>0aa;"));
        Check.same("six of six", "0 1 2 3 4 5 / 0 1 2 3 4 5", kept("<0#0a#1b#2c;>0#9a#9b#9c;"));
        Check.sentence("otherwise, if it can be reached by leaving out the next old word, this"
                + " word goes;");
        Check.same("the old word goes first", "-4 0 / 1 -4", kept("<0ab;>0ba;"));
        Check.same("none is kept", "-4 -4 -4 -4 -4 -4 / -4 -4 -4 -4 -4 -4",
                kept("<0abcdef;>0ghijkl;"));
        Check.same("the last is kept", "-4 -4 -4 -4 -4 5 / -4 -4 -4 -4 -4 5",
                kept("<0abcdez;>0ghijkz;"));
        Check.sentence("otherwise the next new word comes.");
        Check.same("the new word comes first", "2 3 -4 / -4 -4 0 1", kept("<0abc;>0cxab;"));
        Check.same("no old words", " / -4 -4 -4 -4 -4 -4", kept("<0;>0abcdef;"));
        Check.same("no new words", "-4 -4 -4 -4 -4 -4 / ", kept("<0abcdef;>0;"));
    }

    private static void likeBranches() {
        String old = "<0abcdef;1#0x;2y;2;0ghijkl;>0abcdef;0ghijkl;";
        Check.sentence("Two branches are like each other if they have the same number of clauses,");
        fates(old + "1#9x;2y;2;", 2, "0:0 2:2 2:3 2:4 0:1 / 0:0 0:4 2:1 2:2 2:3");
        fates(old + "1#9x;2y;", 2, "0:0 1:-4 1:-4 1:-4 0:1 / 0:0 0:4 1:-4 1:-4");
        fates(old + "1#9x;2y;2;2;", 2, "0:0 1:-4 1:-4 1:-4 0:1 / 0:0 0:4 1:-4 1:-4 1:-4 1:-4");
        Check.sentence("and, one by one, their clauses have the same depth relative to the first"
                + " one,");
        fates(old + "1#9x;2y;3;", 2, "0:0 1:-4 1:-4 1:-4 0:1 / 0:0 0:4 1:-4 1:-4 1:-4");
        fates(old.replace("0ghijkl;>", "0ghijkl;1z;>") + "1z;2#9x;3y;3;", 2,
                "0:0 2:3 2:4 2:5 0:1 0:2 / 0:0 0:4 0:5 2:1 2:2 2:3");
        Check.sentence("the same number of words, and words that are alike one by one.");
        fates(old + "1#9x;2y;2k;", 2, "0:0 1:-4 1:-4 1:-4 0:1 / 0:0 0:4 1:-4 1:-4 1:-4");
        fates(old + "1#9x;2k;2;", 2, "0:0 1:-4 1:-4 1:-4 0:1 / 0:0 0:4 1:-4 1:-4 1:-4");
        fates(old + "1x#9;2y;2;", 2, "0:0 1:-4 1:-4 1:-4 0:1 / 0:0 0:4 1:-4 1:-4 1:-4");
        fates("<0abcdef;1;0ghijkl;>0abcdef;0ghijkl;1;", 2, "0:0 2:2 0:1 / 0:0 0:2 2:1");
        ClauseDrafts x = Check.made("<0abcdef;1q;0ghijkl;>0abcdef;0ghijkl;1qr;");
        Check.same("a word too much", "0:0 1:-4 0:1 / 0:0 0:2 1:-4", fates(x));
        x.erase(1, 2, 1);
        Check.same("without it", "0:0 2:2 0:1 / 0:0 0:2 2:1", fates(x));
        // only whole branches are looked at, not what is below their first clauses
        fates("<0abcdef;1x;2yy;0ghijkl;>0abcdef;0ghijkl;1yy;", 2,
                "0:0 1:-4 1:-4 0:1 / 0:0 0:3 1:-4");
    }

    private static void moves() {
        Check.sentence("The removed branches are considered in the order of their first clauses:"
                + " each is moved if"
                + " there is an added branch that is like it and does not belong to a moved one"
                + " yet;");
        fates("<0abcdef;1q;1q;0ghijkl;>0abcdef;0ghijkl;1q;", 2, "0:0 2:2 1:-4 0:1 / 0:0 0:3 2:1");
        fates("<0abcdef;1q;1r;0ghijkl;>0abcdef;0ghijkl;1r;", 2, "0:0 1:-4 2:2 0:1 / 0:0 0:3 2:2");
        fates("<0abcdef;1q;0ghijkl;>0abcdef;0ghijkl;", 2, "0:0 1:-4 0:1 / 0:0 0:2");
        Check.sentence("it belongs to the first one of these.");
        fates("<0abcdef;1q;0ghijkl;>0abcdef;0ghijkl;1q;1q;", 2, "0:0 2:2 0:1 / 0:0 0:2 2:1 1:-4");
        fates("<0abcdef;1q;1q;0ghijkl;>0abcdef;0ghijkl;1q;1q;", 2,
                "0:0 2:2 2:3 0:1 / 0:0 0:3 2:1 2:2");
        fates("<0abcdef;1q;1#0;1q;0ghijkl;>0abcdef;0ghijkl;1#5;1q;1q;", 2,
                "0:0 2:3 2:2 2:4 0:1 / 0:0 0:4 2:2 2:1 2:3");
    }

    private static void sameClauses() {
        Check.sentence("Two clauses of the two drafts are the same clause if they are a pair, or"
                + " if they are at the"
                + " same place in a removed branch and in the added branch that belongs to it by a"
                + " move.");
        ClauseDrafts x = Check.made("<0abcdef;1x;2y;3z;0ghijkl;>0abcdef;0ghijkl;1x;2y;3z;");
        Check.same("pairs and moved ones", "0:0 2:2 2:3 2:4 0:1 / 0:0 0:4 2:1 2:2 2:3", fates(x));
        x.erase(1, 4, 0);
        Check.same("in branches that are not moved",
                "0:0 1:-4 1:-4 1:-4 0:1 / 0:0 0:4 1:-4 1:-4 1:-4", fates(x));
        Check.same("the last clauses of full drafts",
                "0:0 0:1 0:2 0:3 0:4 0:5 0:6 0:7 / 0:0 0:1 0:2 0:3 0:4 0:5 0:6 0:7",
                fates(asFullAsPossible()));
    }

    private static void changes(String text, String... want) {
        ClauseDrafts x = Check.made(text);
        Check.due("number of changes of " + text, want.length, x.count(0));
        for (int k = 0; k < want.length; k++) {
            Check.same("change " + k + " of " + text, want[k], Check.change(x, k));
        }
    }

    private static void sequence() {
        Check.sentence("CHANGES. The sequence is the list of all pairs, removed branches and added"
                + " branches, in the"
                + " order in which the pairing comes to them; each pair is followed by what the"
                + " pairing finds among the"
                + " children of its clauses.");
        Check.sentence("The changes are numbered from 0 by this sequence.");
        changes("<>");
        changes("<0ab;1c;0d;>0ab;1c;0d;");
        changes("<0ab;1cd;2e;0f;1g;>0abx;1cdy;0h;0fz;1gw;",
                "3 0 0 0 2 0 2 1", "3 0 1 1 2 0 2 1", "0 0 2 -4 -4 -4 -4 -4",
                        "1 0 -4 2 -4 -4 -4 -4",
                "3 0 3 3 1 0 1 1", "3 0 4 4 1 0 1 1");
        Check.sentence("A pair gives, in the order of the words, these changes:");
        changes("<0a#0b#0;0c;>0#1b#1x;0c;", "3 0 0 0 0 1 0 0", "4 0 0 0 1 1 0 1", "4 0 0 0 3 1 2 1",
                "3 0 0 0 4 0 3 1");
    }

    private static void stretches() {
        Check.sentence("kind 3, a stretch: all words that go and come between two kept words next"
                + " to each other");
        changes("<0apqb;>0axyzb;", "3 0 0 0 1 2 1 3");
        changes("<0apb;>0ab;", "3 0 0 0 1 1 1 0");
        changes("<0ab;>0apqrsb;", "3 0 0 0 1 0 1 4");
        Check.sentence("(or before the first one, or after the last one, or all of them if none is"
                + " kept),");
        changes("<0pqa;>0xa;", "3 0 0 0 0 2 0 1");
        changes("<0apq;>0ax;", "3 0 0 0 1 2 1 1");
        changes("<0abcdef;>0ghijkl;", "3 0 0 0 0 6 0 6");
        changes("<0abcdef;>0;", "3 0 0 0 0 6 0 0");
        changes("<0;>0abcdef;", "3 0 0 0 0 0 0 6");
        Check.sentence("if there are any;");
        changes("<0;>0;");
        changes("<0abcdef;>0abcdef;");
        changes("<0ab;>0apb;", "3 0 0 0 1 0 1 1");
        changes("<0apbqcr;>0xaybzc;", "3 0 0 0 0 0 0 1", "3 0 0 0 1 1 2 1", "3 0 0 0 3 1 4 1",
                "3 0 0 0 5 1 6 0");
    }

    private static void turns() {
        Check.sentence("kind 4, a turn: a kept reference, if its old and its new word do not lead"
                + " to the same clause"
                + " and do not both dangle.");
        changes("<0#0;0b;>0#1;0b;", "4 0 0 0 0 1 0 1");
        changes("<0#0;0b;>0#0;0b;");
        changes("<0#2;0b;>0#9;0b;");
        changes("<0#1;0b;>0#2;0b;", "4 0 0 0 0 1 0 1");
        changes("<0#2;0b;>0#1;0b;", "4 0 0 0 0 1 0 1");
        // one dangles, the other one leads to the first clause
        changes("<0#9;>0#0;", "4 0 0 0 0 1 0 1");
        changes("<0#0;>0#9;", "4 0 0 0 0 1 0 1");
        // another number, but the same clause; the same number, but another clause
        changes("<0#1;0b;>0#2;0;0b;", "1 0 -4 1 -4 -4 -4 -4");
        changes("<0#1;0b;>0#1;0;0b;", "4 0 0 0 0 1 0 1", "1 0 -4 1 -4 -4 -4 -4");
        // the same clause by a move; clauses that are removed or added are in one draft only
        changes("<0abcd#1;1q;0efghi;>0abcd#2;0efghi;1q;", "2 0 1 2 -4 -4 -4 -4");
        changes("<0abcd#1;1q;0efghi;>0abcd#9;0efghi;", "4 0 0 0 4 1 4 1", "0 0 1 -4 -4 -4 -4 -4");
        changes("<0abcd#9;0efghi;>0abcd#2;0efghi;1q;", "4 0 0 0 4 1 4 1", "1 0 -4 2 -4 -4 -4 -4");
        changes("<0#0#0#0#0#0#0;0;>0#1#1#1#1#1#1;0;", "4 0 0 0 0 1 0 1", "4 0 0 0 1 1 1 1",
                "4 0 0 0 2 1 2 1",
                "4 0 0 0 3 1 3 1", "4 0 0 0 4 1 4 1", "4 0 0 0 5 1 5 1");
    }

    private static void branches() {
        Check.sentence("A removed branch that is not moved gives a change of kind 0, an added"
                + " branch that is not moved"
                + " one of kind 1, and a moved branch one of kind 2, at the place of the removed"
                + " one.");
        changes("<0;1;2;3;3;2;1;1;>", "0 0 0 -4 -4 -4 -4 -4");
        changes("<>0;1;2;3;3;2;1;1;", "1 0 -4 0 -4 -4 -4 -4");
        changes("<0abcd;1q;0efgh;>0abcd;0efgh;1q;", "2 0 1 2 -4 -4 -4 -4");
        // the branch is added before the stretch and removed behind it
        changes("<0abcd;0efg;1q;>0abcd;1q;0efgx;", "3 0 1 2 3 0 3 1", "2 0 2 1 -4 -4 -4 -4");
    }

    private static void choices() {
        Check.sentence("Each change has a choice: 0 open, at first; 1 accepted; 2 refused.");
        ClauseDrafts x = Check.made("<0ab;>0ac;");
        Check.due("open at first", "1 0", x.count(0), x.change(0, 1));
        Check.due("choices", "-1 0 1 2 0 -1 0", x.choose(0, -1), x.choose(0, 1), x.choose(0, 2),
                x.choose(0, 0), x.choose(0, 0), x.choose(0, 3), x.change(0, 1));
    }

    /** Each of the eight pairs has four stretches and four turns; more do not fit into six words. */
    private static ClauseDrafts manyChanges() {
        ClauseDrafts x = new ClauseDrafts();
        int[] old = {1, 30, 30, 2, 30, 30};
        int[] fresh = {31, 3, 31, 31, 4, 31};
        for (int c = 0; c < 8; c++) {
            x.add(0, 0);
            x.add(1, 0);
            for (int w = 0; w < 6; w++) {
                x.insert(0, c, w, old[w]);
                x.insert(1, c, w, fresh[w]);
            }
        }
        return x;
    }

    private static void asManyChangesAsPossible() {
        ClauseDrafts x = manyChanges();
        Check.due("changes, pairs, stretches, turns", "64 8 32 32", x.count(0), x.count(4),
                x.count(8), x.count(9));
        for (int c = 0; c < 8; c++) {
            String both = " 0 " + c + " " + c;
            String[] want = {"3" + both + " 0 1 0 0", "4" + both + " 1 1 0 1", "3" + both
                    + " 2 0 1 1",
                "4" + both + " 2 1 2 1", "3" + both + " 3 1 3 0", "4" + both + " 4 1 3 1",
                "3" + both + " 5 0 4 1", "4" + both + " 5 1 5 1"};
            for (int i = 0; i < 8; i++) {
                Check.same("change " + (8 * c + i), want[i], Check.change(x, 8 * c + i));
            }
        }
        Check.due("no change more", "-1 -1", x.change(64, 0), x.choose(64, 1));
        for (int k = 0; k < 64; k++) {
            x.choose(k, k % 3);
        }
        x.keep(0);
        x.decide(2);
        Check.due("back, and all choices with it", 64, x.back(0));
        for (int k = 0; k < 64; k++) {
            Check.due("choice " + k, k % 3, x.change(k, 1));
        }
        Check.due("decide for all", "22 64 0", x.decide(2), x.decide(0), x.decide(0));
        Check.due("accepted", "64 8", x.decide(1), x.settle());
        Check.same("the drafts are the same then", Check.draft(x, 1), Check.draft(x, 0));
    }

    private static void shows(ClauseDrafts x, String refusing, String accepting) {
        Check.same("shown by way 0", refusing, Check.shown(x, 0));
        Check.same("shown by way 1", accepting, Check.shown(x, 1));
    }

    private static void ways() {
        Check.sentence("SHOWN. There are two ways of showing the result: by way 0 open changes are"
                + " treated as refused,"
                + " by way 1 as accepted.");
        ClauseDrafts x = Check.made("<0ab;0c;>0ax;0c;1d;");
        shows(x, "0ab;0c;", "0ax;0c;1d;");
        x.choose(0, 1);
        shows(x, "0ax;0c;", "0ax;0c;1d;");
        x.choose(0, 2);
        shows(x, "0ab;0c;", "0ab;0c;1d;");
        x.choose(1, 1);
        shows(x, "0ab;0c;1d;", "0ab;0c;1d;");
        Check.each("no other way", -1, x.shown(-1, 0), x.shown(2, 0));
    }

    private static void shownClauses() {
        Check.sentence("The shown clauses are numbered from 0; they are, in the order of the"
                + " sequence: each pair;");
        shows(new ClauseDrafts(), "", "");
        shows(Check.made("<0a;1b;>0a;1b;"), "0a;1b;", "0a;1b;");
        Check.sentence("all clauses of each removed branch, also of a moved one, if its change is"
                + " refused;");
        shows(Check.made("<0a;1b;2c;>"), "0a;1b;2c;", "");
        ClauseDrafts x = Check.made("<0abcd;1q;2r;0efgh;>0abcd;0efgh;1q;2r;");
        x.choose(0, 2);
        shows(x, "0abcd;1q;2r;0efgh;", "0abcd;1q;2r;0efgh;");
        Check.sentence("all clauses of each added branch, also of a moved one, if its change is"
                + " accepted.");
        shows(Check.made("<>0a;1b;2c;"), "", "0a;1b;2c;");
        x.choose(0, 1);
        shows(x, "0abcd;0efgh;1q;2r;", "0abcd;0efgh;1q;2r;");
        x.choose(0, 0);
        shows(x, "0abcd;1q;2r;0efgh;", "0abcd;0efgh;1q;2r;");
        Check.sentence("They have the depths of their drafts.");
        shows(Check.made("<0abcd;1qrs;2t;0efgh;>0abcd;0efgh;0qrs;1t;"), "0abcd;1qrs;2t;0efgh;",
                "0abcd;0efgh;0qrs;1t;");
    }

    private static void shownWords() {
        Check.sentence("The words of a pair are the kept words and, for each stretch, the words"
                + " that go, if it is"
                + " refused, or the words that come, if it is accepted.");
        ClauseDrafts x = Check.made("<0apbqcr;>0xaybzc;");
        String[] parts = {"|x", "p|y", "q|z", "r|"};
        String kept = "abc";
        for (int mask = 0; mask < 16; mask++) {
            StringBuilder want = new StringBuilder("0");
            for (int k = 0; k < 4; k++) {
                boolean accepted = (mask >> k & 1) == 1;
                x.choose(k, accepted ? 1 : 2);
                int bar = parts[k].indexOf('|');
                want.append(accepted ? parts[k].substring(bar + 1) : parts[k].substring(0, bar));
                want.append(k < 3 ? kept.substring(k, k + 1) : ";");
            }
            shows(x, want.toString(), want.toString());
        }
        x = Check.made("<0abcdem;>0mvwxyz;");
        x.choose(0, 2);
        x.choose(1, 1);
        shows(x, "0abcdemvwxyz;", "0abcdemvwxyz;");
        x.choose(0, 1);
        x.choose(1, 2);
        shows(x, "0m;", "0m;");
        x = Check.made("<0ab;1cd;0ef;>0ax;1cy;0ez;");
        x.choose(1, 1);
        shows(x, "0ab;1cy;0ef;", "0ax;1cy;0ez;");
        x.choose(1, 2);
        x.choose(2, 1);
        shows(x, "0ab;1cd;0ez;", "0ax;1cd;0ez;");
        Check.sentence("The other clauses have their own words.");
        // the moved clause has a reference that leads to another clause in each draft
        shows(Check.made("<0abxy;1c#0;0gvw;>0abxy;0gvw;1c#1;"), "0abxy;1c#0;0gvw;",
                "0abxy;0gvw;1c#1;");
        shows(Check.made("<0abcdef;1ghijkl;>0abcdef;0mnopqr;"), "0abcdef;1ghijkl;",
                "0abcdef;0mnopqr;");
        Check.sentence("A kept reference is taken from the old draft, but from the new one if it"
                + " is a turn that is"
                + " accepted.");
        x = Check.made("<0#0;0b;>0#1;0b;");
        shows(x, "0#0;0b;", "0#1;0b;");
        x.choose(0, 1);
        shows(x, "0#1;0b;", "0#1;0b;");
        x.choose(0, 2);
        shows(x, "0#0;0b;", "0#0;0b;");
    }

    private static void shownReferences() {
        Check.sentence("A reference that is shown has the code 30 plus the number of the shown"
                + " clause that is the"
                + " clause to which it leads in its own draft, or is the same clause as that one;");
        // the old reference leads to b, which is shown behind n
        ClauseDrafts x = Check.made("<0#1;0b;>0#2;0n;0b;");
        shows(x, "0#1;0b;", "0#2;0n;0b;");
        // the reference of an added clause leads to a branch that is shown where it was removed
        x = Check.made("<0abcd;1q;0efgh;>0abcd;0efgh;1q;1z#2;");
        Check.due("a move and an added clause", "2 1", x.change(0, 0), x.change(1, 0));
        x.choose(0, 2);
        x.choose(1, 1);
        shows(x, "0abcd;1q;0efgh;1z#1;", "0abcd;1q;0efgh;1z#1;");
        Check.sentence("it has the code 27 if there is no such shown clause.");
        x = Check.made("<0#1#2#9;0bcd;>0#1#2#9;");
        Check.same("dangling ones by way 0", "0#1??;0bcd;", Check.shown(x, 0));
        Check.same("dangling ones by way 1", "0???;", Check.shown(x, 1));
        Check.due("the code 27", "27 27 27 -4", x.shownWord(1, 0, 0), x.shownWord(1, 0, 1),
                x.shownWord(1, 0, 2),
                x.shownWord(1, 0, 3));
    }

    private static void asManyShownAsPossible() {
        ClauseDrafts x = Check.made(FIFTEEN);
        Check.due("pairs, changes, removed, added", "1 14 7 7", x.count(4), x.count(0), x.count(5),
                x.count(6));
        for (int k = 0; k < 14; k++) {
            x.choose(k, x.change(k, 0) == 0 ? 2 : 1);
        }
        for (int way = 0; way <= 1; way++) {
            Check.due("fifteen clauses", "15 17 0 7", x.shown(way, 0), x.shown(way, 1), x.shown(way,
                    2), x.shown(way, 3));
            Check.due("the references", "30 37 44", x.shownWord(way, 0, 0), x.shownWord(way, 7, 1),
                    x.shownWord(way, 14, 1));
            Check.due("no clause more", "-4 -4", x.shownClause(way, 15, 0), x.shownWord(way, 15,
                    0));
            Check.due("find", "7 14 0", x.find(way, 0, 7), x.find(way, 1, 7), x.find(way, 1, 0));
        }
        Check.due("too many for a draft", -3, x.settle());
        x.decide(0);
        Check.due("eight by each way, and none behind them", "8 8 -4 -4 -4", x.shown(0, 0),
                x.shown(1, 0),
                x.shownWord(0, 8, 0), x.shownWord(1, 8, 0), x.shownClause(0, 8, 1));
    }
}
