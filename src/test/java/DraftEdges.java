/** Promises 6 to 12, sentence by sentence. */
final class DraftEdges {
    private static final int FAR = Check.FAR, LOW = Check.LOW;
    private static final String MOVED = "<0ab#2;0c#1;0def;>0def;0ab#0;0cx#2;";

    private DraftEdges() {
    }

    static void run() {
        Check.section("Promise 6");
        draft();
        Check.section("Promise 7");
        clause();
        Check.section("Promise 8");
        word();
        Check.section("Promise 9");
        kept();
        Check.section("Promise 10");
        leads();
        Check.section("Promise 11");
        cost();
        Check.section("Promise 12");
        between();
    }

    private static void draft() {
        Check.sentence("Returns a property of a draft.");
        ClauseDrafts x = Check.made("<0ab#0;1#1#9;0#3;>0;");
        Check.sentence("side: 0 or 1");
        Check.each("sides", -1, x.draft(-1, 0), x.draft(2, 0), x.draft(FAR, 4), x.draft(LOW, 4));
        Check.sentence("what: 0 the number of its clauses; 1 of its words; 2 of its references; 3"
                + " of its dangling"
                + " references; 4 the sum of the weights of the branches of all its clauses of"
                + " depth 0");
        Check.due("the old draft", "3 6 4 2 12", x.draft(0, 0), x.draft(0, 1), x.draft(0, 2),
                x.draft(0, 3), x.draft(0, 4));
        Check.due("the new draft", "1 0 0 0 2", x.draft(1, 0), x.draft(1, 1), x.draft(1, 2),
                x.draft(1, 3), x.draft(1, 4));
        x.head(0);
        Check.due("without head", "6 0", x.draft(0, 4), x.draft(1, 4));
        for (int side = 0; side <= 1; side++) {
            for (int c = 0; c < 8; c++) {
                x.add(side, 0);
                for (int w = 0; w < 6; w++) {
                    x.insert(side, c, 0, 39);
                }
            }
        }
        x.head(9);
        Check.due("a full old draft", "8 48 46 43 120", x.draft(0, 0), x.draft(0, 1), x.draft(0, 2),
                x.draft(0, 3), x.draft(0, 4));
        Check.due("a full new draft", "8 48 48 48 120", x.draft(1, 0), x.draft(1, 1), x.draft(1, 2),
                x.draft(1, 3), x.draft(1, 4));
        x = Check.made("<0a#0#9;>");
        Check.due("with two references", "3 2 1", x.draft(0, 1), x.draft(0, 2), x.draft(0, 3));
        x.erase(0, 0, 2);
        Check.due("with one", "2 1 0", x.draft(0, 1), x.draft(0, 2), x.draft(0, 3));
        x.erase(0, 0, 1);
        Check.due("without any", "1 0 0", x.draft(0, 1), x.draft(0, 2), x.draft(0, 3));
        Check.sentence("Returns it; errors: BAD.");
        Check.each("no such property", -1, x.draft(0, -1), x.draft(1, 5), x.draft(0, FAR),
                x.draft(1, LOW));
    }

    private static void clause() {
        Check.sentence("Returns a property of a clause.");
        ClauseDrafts x = Check.made("<0ab;1cde#1;2;0fgh#8;>0ab;0fgh#8;1x;1cde#2;2;");
        Check.sentence("side: 0 or 1");
        Check.each("sides", -1, x.clause(-1, 0, 0), x.clause(2, 0, 0), x.clause(FAR, 0, 0),
                x.clause(LOW, 0, 0));
        Check.sentence("c: the clause");
        Check.each("clauses", -1, x.clause(0, -1, 0), x.clause(0, 4, 0), x.clause(1, 5, 0),
                x.clause(0, FAR, 0), x.clause(1, LOW, 0));
        Check.due("first and last ones", "0 0 0 2", x.clause(0, 0, 0), x.clause(0, 3, 0),
                x.clause(1, 0, 0), x.clause(1, 4, 0));
        Check.sentence("what: 0 its depth; 1 the number of its words; 2 its parent; 3 the weight"
                + " of its branch; 4 the number of"
                + " clauses of its branch; 5 the clause of the other draft that is the same"
                + " clause; 6 0 if it belongs to a"
                + " pair, 1 if it is in a removed or added branch that is not moved, 2 if it is in"
                + " a moved one");
        String[] old = {"0 2 -4 12 3 0 0", "1 4 0 8 2 3 2", "2 0 1 2 1 4 2", "0 4 -4 6 1 1 0"};
        String[] fresh = {"0 2 -4 4 1 0 0", "0 4 -4 17 4 3 0", "1 1 1 3 1 -4 1", "1 4 1 8 2 1 2",
                "2 0 3 2 1 2 2"};
        for (int c = 0; c < 5; c++) {
            for (int side = 0; side <= 1; side++) {
                if (c < x.draft(side, 0)) {
                    Check.due("clause " + c + " of side " + side, side == 0 ? old[c] : fresh[c],
                            x.clause(side, c, 0),
                            x.clause(side, c, 1), x.clause(side, c, 2), x.clause(side, c, 3),
                                    x.clause(side, c, 4),
                            x.clause(side, c, 5), x.clause(side, c, 6));
                }
            }
        }
        Check.sentence("Returns it; NONE for what = 2 and 5 if there is none; errors: BAD.");
        Check.due("no parent, no same clause", "-4 -4", x.clause(1, 1, 2), x.clause(1, 2, 5));
        Check.each("no such property", -1, x.clause(0, 0, -1), x.clause(0, 0, 7), x.clause(0, 0,
                FAR), x.clause(0, 0, LOW));
        eighthClauses();
    }

    private static void eighthClauses() {
        ClauseDrafts x = Check.made("<0;1;2;3;0;1;2;3abcdef;>0;1;2;3;0;1;2;3abcdef;");
        Check.due("the eighth old one", "3 6 6 8 1 7 0", x.clause(0, 7, 0), x.clause(0, 7, 1),
                x.clause(0, 7, 2),
                x.clause(0, 7, 3), x.clause(0, 7, 4), x.clause(0, 7, 5), x.clause(0, 7, 6));
        Check.due("the eighth new one", "3 6 6 8 1 7 0", x.clause(1, 7, 0), x.clause(1, 7, 1),
                x.clause(1, 7, 2),
                x.clause(1, 7, 3), x.clause(1, 7, 4), x.clause(1, 7, 5), x.clause(1, 7, 6));
        Check.due("no ninth ones", "-1 -1 -1", x.clause(0, 8, 0), x.clause(1, 8, 5), x.find(0, 0,
                8));
        x = Check.made("<0;1;2;3;0;1;2;3abcdef;>");
        Check.due("the eighth one is removed", "-4 1", x.clause(0, 7, 5), x.clause(0, 7, 6));
        x = Check.made("<0a;1b;1c;1d;1e;1f;0uvwxyz;1q;>0a;1b;1c;1d;1e;1f;1q;0uvwxyz;");
        Check.due("the eighth one is moved", "6 2 7 2", x.clause(0, 7, 5), x.clause(0, 7, 6),
                x.clause(1, 6, 5), x.clause(1, 6, 6));
        Check.due("the eighth one of a pair", "6 0 7 0", x.clause(1, 7, 5), x.clause(1, 7, 6),
                x.clause(0, 6, 5), x.clause(0, 6, 6));
    }

    private static void word() {
        Check.sentence("Returns a word of a clause.");
        ClauseDrafts x = Check.made("<0az#0#9cd;0;>0;0;0;0;0;0;0;0abcdef;");
        Check.sentence("side: 0 or 1");
        Check.each("sides", -1, x.word(-1, 0, 0), x.word(2, 0, 0), x.word(FAR, 0, 0), x.word(LOW, 0,
                0));
        Check.sentence("c: the clause");
        Check.each("clauses", -1, x.word(0, -1, 0), x.word(0, 2, 0), x.word(1, 8, 0), x.word(0, FAR,
                0), x.word(0, LOW, 0));
        Check.sentence("w: the number of the word, 0 or more");
        Check.each("below 0", -1, x.word(0, 0, -1), x.word(0, 1, LOW), x.word(1, 7, -1));
        Check.sentence("Returns its code; NONE if the clause has no such word; errors: BAD.");
        Check.due("codes", "1 26 30 39 3 4", x.word(0, 0, 0), x.word(0, 0, 1), x.word(0, 0, 2),
                x.word(0, 0, 3), x.word(0, 0, 4),
                x.word(0, 0, 5));
        Check.due("of the eighth clause", "1 6", x.word(1, 7, 0), x.word(1, 7, 5));
        Check.each("no such word", -4, x.word(0, 0, 6), x.word(0, 0, FAR), x.word(0, 1, 0),
                x.word(1, 7, 6), x.word(1, 6, 0));
        x.erase(0, 0, 5);
        Check.due("a word that was erased", -4, x.word(0, 0, 5));
        Check.each("BAD and NONE", -1, x.word(2, 0, 6), x.word(0, 2, 6), x.word(-1, FAR, FAR));
    }

    private static void kept() {
        Check.sentence("Returns the word of the other clause of a pair with which a word is kept.");
        ClauseDrafts x = Check.made("<0;0;0;0;0;0;0;0abcdef;>0;0;0;0;0;0;0;0abcdef;");
        Check.due("of the eighth clauses", "0 5 0 5", x.kept(0, 7, 0), x.kept(0, 7, 5), x.kept(1, 7,
                0), x.kept(1, 7, 5));
        Check.sentence("side: 0 or 1");
        Check.each("sides", -1, x.kept(-1, 7, 0), x.kept(2, 7, 0), x.kept(FAR, 7, 0), x.kept(LOW, 7,
                0));
        Check.sentence("c: the clause");
        Check.each("clauses", -1, x.kept(0, -1, 0), x.kept(1, 8, 0), x.kept(0, FAR, 0), x.kept(0,
                LOW, 0));
        Check.sentence("w: the number of a word that it has");
        Check.each("words", -1, x.kept(0, 7, -1), x.kept(0, 7, 6), x.kept(1, 6, 0), x.kept(0, 7,
                FAR), x.kept(0, 7, LOW));
        Check.sentence("Returns the number of the other word; NONE if the word goes or comes, or"
                + " its clause belongs to no pair;"
                + " errors: BAD.");
        x = Check.made("<0ab;>0cbd;");
        Check.due("old words", "-4 1", x.kept(0, 0, 0), x.kept(0, 0, 1));
        Check.due("new words", "-4 1 -4", x.kept(1, 0, 0), x.kept(1, 0, 1), x.kept(1, 0, 2));
        x = Check.made(MOVED);
        Check.due("a move is no pair", "-4 -4 -4 -4", x.kept(0, 2, 0), x.kept(0, 2, 2), x.kept(1, 0,
                0), x.kept(1, 0, 2));
        Check.due("removed, added", "-4 -4", Check.made("<0a;>").kept(0, 0, 0),
                Check.made("<>0a;").kept(1, 0, 0));
    }

    private static void leads() {
        Check.sentence("Returns the clause of the other draft that is the same clause as the one"
                + " to which a reference leads.");
        ClauseDrafts x = Check.made(MOVED);
        Check.due("by a move, by a pair", "0 2 1 2", x.leads(0, 0, 2), x.leads(0, 1, 1), x.leads(1,
                2, 2), x.leads(1, 1, 2));
        Check.sentence("side: 0 or 1");
        Check.each("sides", -1, x.leads(-1, 0, 2), x.leads(2, 0, 2), x.leads(FAR, 0, 2),
                x.leads(LOW, 0, 2));
        Check.sentence("c: the clause");
        Check.each("clauses", -1, x.leads(0, -1, 2), x.leads(0, 3, 0), x.leads(1, FAR, 0),
                x.leads(1, LOW, 0));
        Check.sentence("w: the number of a word that it has");
        Check.each("words", -1, x.leads(0, 0, -1), x.leads(0, 0, 3), x.leads(0, 0, FAR), x.leads(0,
                0, LOW));
        Check.sentence("Returns the number of the clause; NONE if the word is a letter, if it"
                + " dangles, or if there is no such"
                + " clause; errors: BAD.");
        Check.due("letters", "-4 -4", x.leads(0, 0, 0), x.leads(1, 0, 2));
        x = Check.made("<0a#1#2#9;0bcd;>0a#0#1#8;");
        Check.due("to a removed clause, dangling", "-4 -4 -4", x.leads(0, 0, 1), x.leads(0, 0, 2),
                x.leads(0, 0, 3));
        Check.due("to the first clause, dangling", "0 -4 -4", x.leads(1, 0, 1), x.leads(1, 0, 2),
                x.leads(1, 0, 3));
        x = Check.made("<0#7;0;0;0;0;0;0;0;>0#7#8;0;0;0;0;0;0;0;");
        Check.due("to the eighth clause", "7 7 -4", x.leads(0, 0, 0), x.leads(1, 0, 0), x.leads(1,
                0, 1));
    }

    private static void costs(ClauseDrafts x, String want) {
        Check.due("costs", want, x.cost(0), x.cost(1), x.cost(2), x.cost(3), x.cost(4));
    }

    private static void cost() {
        Check.sentence("Returns a part of the cost of the pairing.");
        Check.sentence("what: 0 the cost of the rows of depth 0; 1 the sum of the word costs of"
                + " all pairs; 2 the sum of the weights"
                + " of all removed branches; 3 that of all added branches; 4 what of the sums 2"
                + " and 3 together belongs to moved"
                + " branches");
        costs(new ClauseDrafts(), "0 0 0 0 0");
        costs(Check.made("<0abc;1d;>"), "8 0 8 0 0");
        costs(Check.made("<>0abc;1d;"), "8 0 0 8 0");
        costs(Check.made(MOVED), "11 1 5 5 10");
        costs(Check.made("<0abcd;1q;1r;0efgh;>0abcdx;0efgh;1q;"), "10 1 6 3 6");
        ClauseDrafts x = Check.made("<0abcd;1;0efgh;>0abcd;0efgh;1;");
        x.head(0);
        costs(x, "0 0 0 0 0");
        x.head(9);
        costs(x, "18 0 9 9 18");
        Check.sentence("Returns it; errors: BAD.");
        Check.each("no such part", -1, x.cost(-1), x.cost(5), x.cost(FAR), x.cost(LOW));
    }

    private static void between() {
        Check.sentence("Returns the cost of two clauses.");
        ClauseDrafts x = Check.made("<0ab;1c;>0a;1c;2d;");
        Check.due("between", "4 5 6 8 3 2", x.between(0, 0), x.between(0, 1), x.between(0, 2),
                x.between(1, 0), x.between(1, 1),
                x.between(1, 2));
        Check.sentence("a: a clause of the old draft");
        Check.each("old clauses", -1, x.between(-1, 0), x.between(2, 0), x.between(FAR, 0),
                x.between(LOW, 0));
        Check.sentence("b: a clause of the new draft");
        Check.each("new clauses", -1, x.between(0, -1), x.between(0, 3), x.between(0, FAR),
                x.between(0, LOW));
        Check.sentence("Returns the cost; errors: BAD.");
        x = Check.made("<0;0;0;0;0;0;0;0abcdef;>0;0;0;0;0;0;0;0ghijkl;");
        Check.due("the eighth ones", "12 6 6 0 -1 -1", x.between(7, 7), x.between(7, 0),
                x.between(0, 7), x.between(0, 0),
                x.between(8, 7), x.between(7, 8));
        Check.due("an empty draft", "-1 -1", Check.made("<0;>").between(0, 0),
                Check.made("<>0;").between(0, 0));
    }
}
