/** Promises 6 to 12: what is asked of drafts, words and costs. */
final class DraftTest {
    private static final String MOVED = "<0ab;0c;0def;>0def;0ab;0cx;";
    private static final int FAR = Integer.MAX_VALUE, LOW = Integer.MIN_VALUE;

    private DraftTest() {
    }

    public static void main(String[] args) {
        drafts();
        clauses();
        sameClauses();
        movedBranches();
        words();
        keptWords();
        leadingReferences();
        costs();
        costsOfTwoClauses();
        headsAndTies();
        Check.finish();
    }

    private static void drafts() {
        ClauseDrafts x = Check.made("<0ab#0;1#1#9;0#5;>0;");
        Check.due("draft of the old side", "3 6 4 2 12", x.draft(0, 0), x.draft(0, 1),
                x.draft(0, 2), x.draft(0, 3), x.draft(0, 4));
        Check.due("draft of the new side", "1 0 0 0 2", x.draft(1, 0), x.draft(1, 1),
                x.draft(1, 2), x.draft(1, 3), x.draft(1, 4));
        Check.due("draft out of range", "-1 -1 -1 -1 -1 -1", x.draft(-1, 0), x.draft(2, 0),
                x.draft(0, -1), x.draft(0, 5), x.draft(FAR, 0), x.draft(1, LOW));
        x.head(9);
        Check.due("weights with head 9", "33 9", x.draft(0, 4), x.draft(1, 4));
        x.head(0);
        Check.due("weights with head 0", "6 0", x.draft(0, 4), x.draft(1, 4));
        Check.due("a reference to the number of clauses dangles", 1,
                Check.made("<0#1;0#2;>").draft(0, 3));
    }

    private static void clauses() {
        ClauseDrafts x = Check.made("<0ab;1c;2;3d;1e;0;>");
        String[] want = {"0 1 2 3 1 0", "2 1 0 1 1 0", "-4 0 1 2 0 -4", "15 8 5 3 3 2",
            "5 3 2 1 1 1", "-4 -4 -4 -4 -4 -4", "1 1 1 1 1 1"};
        for (int what = 0; what <= 6; what++) {
            Check.due("clause(0, c, " + what + ")", want[what], x.clause(0, 0, what),
                    x.clause(0, 1, what), x.clause(0, 2, what), x.clause(0, 3, what),
                    x.clause(0, 4, what), x.clause(0, 5, what));
        }
        Check.due("clause out of range", "-1 -1 -1 -1 -1 -1 -1", x.clause(0, 6, 0),
                x.clause(0, -1, 0), x.clause(1, 0, 0), x.clause(2, 0, 0), x.clause(-1, 0, 0),
                x.clause(0, 0, 7), x.clause(0, 0, -1));
        Check.due("clause far out of range", "-1 -1 -1 -1", x.clause(0, FAR, 5),
                x.clause(0, LOW, 5), x.clause(0, 0, FAR), x.clause(LOW, 0, 0));
    }

    private static void sameClauses() {
        ClauseDrafts x = Check.made("<0ab;1c#3;0d;0#2e;>0ab;0d;1cx#3;0#1e;");
        Check.due("same as old", "0 -4 1 3", x.clause(0, 0, 5), x.clause(0, 1, 5),
                x.clause(0, 2, 5), x.clause(0, 3, 5));
        Check.due("same as new", "0 2 -4 3", x.clause(1, 0, 5), x.clause(1, 1, 5),
                x.clause(1, 2, 5), x.clause(1, 3, 5));
        Check.due("fates of old", "0 1 0 0", x.clause(0, 0, 6), x.clause(0, 1, 6),
                x.clause(0, 2, 6), x.clause(0, 3, 6));
        Check.due("fates of new", "0 0 1 0", x.clause(1, 0, 6), x.clause(1, 1, 6),
                x.clause(1, 2, 6), x.clause(1, 3, 6));
    }

    private static void fates(String text, String old, String fresh) {
        ClauseDrafts x = Check.made(text);
        StringBuilder[] all = {new StringBuilder(), new StringBuilder()};
        for (int side = 0; side <= 1; side++) {
            for (int c = 0; c < x.draft(side, 0); c++) {
                all[side].append(c == 0 ? "" : " ").append(x.clause(side, c, 6));
                all[side].append(':').append(x.clause(side, c, 5));
            }
        }
        Check.same("old clauses of " + text, old, all[0].toString());
        Check.same("new clauses of " + text, fresh, all[1].toString());
    }

    private static void movedBranches() {
        fates(MOVED, "0:1 0:2 2:0", "2:2 0:0 0:1");
        // both branches cost 7: removing is preferred to adding
        fates("<0ab;1c;0defgh;>0defgh;0ab;1c;", "2:1 2:2 0:0", "0:2 2:0 2:1");
        // into another depth, and references are alike whatever they lead to
        fates("<0ab;1cde#0;0g;>0ab;0cde#9;0g;", "0:0 2:1 0:2", "0:0 2:1 0:2");
        // a letter, the number of words, the number of clauses, a relative depth are different
        fates("<0abxx;1cdef;0gyy;>0abxx;0gyy;1cdeh;", "0:0 1:-4 0:1", "0:0 0:2 1:-4");
        fates("<0abxx;1cdef;0gyy;>0abxx;0gyy;1cde;", "0:0 1:-4 0:1", "0:0 0:2 1:-4");
        fates("<0abxx;1cdef;0gyy;>0abxx;0gyy;1cdef;2;", "0:0 1:-4 0:1", "0:0 0:2 1:-4 1:-4");
        fates("<0abcxyz;1d;2e;2f;0ghijkl;>0abcxyz;0ghijkl;1d;2e;3f;",
                "0:0 1:-4 1:-4 1:-4 0:1", "0:0 0:4 1:-4 1:-4 1:-4");
        fates("<0abcxyz;1d;2e;2f;0ghijkl;>0abcxyz;0ghijkl;1d;2e;2f;",
                "0:0 2:2 2:3 2:4 0:1", "0:0 0:4 2:1 2:2 2:3");
        // the first one that is free: two removed, two added, all like each other
        fates("<0abcxyz;1q;1q;0ghijkl;>0abcxyz;0ghijkl;1q;1q;",
                "0:0 2:2 2:3 0:1", "0:0 0:3 2:1 2:2");
        fates("<0abcxyz;1q;1q;0ghijkl;>0abcxyz;0ghijkl;1q;",
                "0:0 2:2 1:-4 0:1", "0:0 0:3 2:1");
        fates("<0abcxyz;1q;0ghijkl;>0abcxyz;0ghijkl;1q;1q;",
                "0:0 2:2 0:1", "0:0 0:2 2:1 1:-4");
    }

    private static void words() {
        ClauseDrafts x = Check.made("<0az#0#9;0;>0;");
        Check.due("words", "1 26 30 39", x.word(0, 0, 0), x.word(0, 0, 1), x.word(0, 0, 2),
                x.word(0, 0, 3));
        Check.due("no such words", "-4 -4 -4 -4 -4", x.word(0, 0, 4), x.word(0, 0, 6),
                x.word(0, 0, FAR), x.word(0, 1, 0), x.word(1, 0, 0));
        Check.due("word out of range", "-1 -1 -1 -1 -1 -1", x.word(0, 0, -1), x.word(0, 2, 0),
                x.word(0, -1, 0), x.word(1, 1, 0), x.word(2, 0, 0), x.word(-1, 0, 0));
        Check.due("BAD comes before NONE", "-1 -1", x.word(0, 2, 9), x.word(2, 0, 9));
    }

    private static void keptWords() {
        ClauseDrafts x = Check.made("<0abca;>0bac;");
        Check.due("kept old", "-4 0 -4 1", x.kept(0, 0, 0), x.kept(0, 0, 1), x.kept(0, 0, 2),
                x.kept(0, 0, 3));
        Check.due("kept new", "1 3 -4", x.kept(1, 0, 0), x.kept(1, 0, 1), x.kept(1, 0, 2));
        Check.due("kept out of range", "-1 -1 -1 -1 -1 -1", x.kept(0, 0, 4), x.kept(0, 0, -1),
                x.kept(1, 0, 3), x.kept(0, 1, 0), x.kept(2, 0, 0), x.kept(-1, 0, 0));
        x = Check.made(MOVED);
        Check.due("words of moved branches are not kept", "-4 -4", x.kept(0, 2, 0), x.kept(1, 0, 0));
        Check.due("words of pairs", "0 1 -4", x.kept(0, 0, 0), x.kept(1, 1, 1), x.kept(1, 2, 1));
        x = Check.made("<0#1a;>0b#9;");
        Check.due("references are alike", "1 0", x.kept(0, 0, 0), x.kept(1, 0, 1));
    }

    private static void leadingReferences() {
        ClauseDrafts x = Check.made("<0ab#2;0c#1#5;0def;>0def;0ab#0;0cx#2#3;");
        Check.due("through a move", "0 2", x.leads(0, 0, 2), x.leads(1, 1, 2));
        Check.due("through a pair", "2 1", x.leads(0, 1, 1), x.leads(1, 2, 2));
        Check.due("letters and dangling ones", "-4 -4 -4 -4", x.leads(0, 0, 0), x.leads(0, 1, 2),
                x.leads(1, 2, 3), x.leads(1, 0, 2));
        Check.due("leads out of range", "-1 -1 -1 -1 -1", x.leads(0, 0, 3), x.leads(0, 0, -1),
                x.leads(0, 3, 0), x.leads(2, 0, 0), x.leads(-1, 0, 0));
        x = Check.made("<0a#1;0b;0c;>0a#1;0n;0b;0c;");
        Check.due("to an added clause", "2 -4", x.leads(0, 0, 1), x.leads(1, 0, 1));
    }

    private static void costs() {
        ClauseDrafts x = Check.made(MOVED);
        Check.due("costs", "11 1 5 5 10", x.cost(0), x.cost(1), x.cost(2), x.cost(3), x.cost(4));
        Check.due("cost out of range", "-1 -1 -1 -1", x.cost(-1), x.cost(5), x.cost(FAR), x.cost(LOW));
        x.head(2);
        Check.due("found anew", "11 1 5 5 10", x.cost(0), x.cost(1), x.cost(2), x.cost(3), x.cost(4));
        x = Check.made("<0ab;1c#3;0d;0#2e;>0ab;0d;1cx#3;0#1e;");
        Check.due("costs", "9 0 4 5 0", x.cost(0), x.cost(1), x.cost(2), x.cost(3), x.cost(4));
        x = Check.made("<0abc;1d;>");
        Check.due("all removed", "8 0 8 0 0", x.cost(0), x.cost(1), x.cost(2), x.cost(3), x.cost(4));
        x = Check.made("<>0abc;1d;0;");
        Check.due("all added", "10 0 0 10 0", x.cost(0), x.cost(1), x.cost(2), x.cost(3), x.cost(4));
    }

    private static void costsOfTwoClauses() {
        ClauseDrafts x = Check.made("<0ab;1c;>0a;1c;2d;");
        Check.due("between(0, b)", "4 5 6", x.between(0, 0), x.between(0, 1), x.between(0, 2));
        Check.due("between(1, b)", "8 3 2", x.between(1, 0), x.between(1, 1), x.between(1, 2));
        Check.due("between out of range", "-1 -1 -1 -1 -1 -1", x.between(2, 0), x.between(-1, 0),
                x.between(0, 3), x.between(0, -1), x.between(FAR, 0), x.between(0, LOW));
        x = Check.made("<0abcabc;>0cabdab;");
        Check.due("two stay in order, wherever they stand", 4, x.between(0, 0));
        x = Check.made("<0#1#2;>0#3a#4;");
        Check.due("references are alike", 1, x.between(0, 0));
    }

    private static void headsAndTies() {
        ClauseDrafts x = Check.made("<0ab;>0cd;");
        x.head(0);
        Check.due("a pair is preferred", "1 4", x.count(4), x.cost(0));
        x = Check.made("<0a;0a;>0a;");
        Check.due("the first one is the pair", "0 -4", x.clause(0, 0, 5), x.clause(0, 1, 5));
        x = Check.made("<0a;>0a;0a;");
        Check.due("the first one is the pair", "0 -4", x.clause(1, 0, 5), x.clause(1, 1, 5));
        x = Check.made("<0ab;0cd;>0cd;0ab;");
        Check.due("two pairs cost as much as two branches", "8 2", x.cost(0), x.count(4));
        x.head(1);
        Check.due("with a smaller head one is moved", "6 1 6", x.cost(0), x.count(7), x.cost(4));
        Check.due("and it is the removed one that comes first", "2 0", x.clause(0, 0, 6),
                x.clause(0, 1, 6));
    }
}
