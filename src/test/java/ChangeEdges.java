/** Promises 13 to 20, sentence by sentence. */
final class ChangeEdges {
    private static final int FAR = Check.FAR, LOW = Check.LOW;
    private static final String MOVED = "<0ab#2;0c;0def;>0def;0ab#0;0cx;";

    private ChangeEdges() {
    }

    static void run() {
        Check.section("Promise 13");
        change();
        Check.section("Promise 14");
        choose();
        Check.section("Promise 15");
        decide();
        Check.section("Promise 16");
        shown();
        Check.section("Promise 17");
        shownClause();
        Check.section("Promise 18");
        shownWord();
        Check.section("Promise 19");
        find();
        Check.section("Promise 20");
        settle();
        settleWhereItIsFull();
    }

    /** A change of each kind: a stretch, a turn, a removed branch, an added one, a moved one. */
    private static ClauseDrafts eachKind() {
        return Check.made("<0abcd#0;1x;1q;0efgh;>0abcd#1y;0efgh;1q;1zz;");
    }

    private static void change() {
        Check.sentence("Returns a property of a change.");
        Check.sentence("k: the change");
        ClauseDrafts x = eachKind();
        Check.due("changes", 5, x.count(0));
        Check.each("no change", -1, x.change(-1, 0), x.change(5, 0), x.change(FAR, 0), x.change(LOW,
                0));
        Check.each("none at all", -1, new ClauseDrafts().change(0, 0),
                Check.made("<0a;>0a;").change(0, 7));
        Check.sentence("what: 0 its kind; 1 its choice; 2 its clause of the old draft; 3 its"
                + " clause of the new draft (of a branch"
                + " the first clause); 4 how many words of the old clause are before it; 5 how"
                + " many words go; 6 how many words of"
                + " the new clause are before it; 7 how many words come.");
        x.choose(1, 1);
        x.choose(3, 2);
        Check.same("a stretch", "3 1 0 0 5 0 5 1", Check.change(x, 1));
        Check.each("no such property", -1, x.change(0, -1), x.change(0, 8), x.change(0, FAR),
                x.change(0, LOW));
        Check.sentence("For a turn, 4 and 6 are counted before its reference, and 5 and 7 are 1");
        Check.same("a turn", "4 0 0 0 4 1 4 1", Check.change(x, 0));
        Check.same("a turn at the beginning of the old clause", "4 0 0 0 0 1 1 1",
                Check.change(Check.made("<0#0;0b;>0b#1;0b;"), 1));
        Check.sentence("Returns it; NONE for what = 2 and 3 if there is no such clause, and for"
                + " what = 4 to 7 if it is neither a"
                + " stretch nor a turn; errors: BAD.");
        Check.same("a removed branch", "0 0 1 -4 -4 -4 -4 -4", Check.change(x, 2));
        Check.same("a moved branch", "2 2 2 2 -4 -4 -4 -4", Check.change(x, 3));
        Check.same("an added branch", "1 0 -4 3 -4 -4 -4 -4", Check.change(x, 4));
    }

    private static void choose() {
        Check.sentence("Sets the choice of a change.");
        ClauseDrafts x = eachKind();
        Check.due("choose, the choices", "0 0 0 2 0 0", x.choose(2, 2), x.change(0, 1), x.change(1,
                1), x.change(2, 1),
                x.change(3, 1), x.change(4, 1));
        Check.sentence("k: the change");
        Check.each("no change", -1, x.choose(-1, 1), x.choose(5, 1), x.choose(FAR, 1), x.choose(LOW,
                1));
        Check.due("the first and the last one", "0 0 1 1", x.choose(0, 1), x.choose(4, 1),
                x.change(0, 1), x.change(4, 1));
        Check.sentence("how: 0 open, 1 accepted, 2 refused");
        Check.each("no choice", -1, x.choose(0, -1), x.choose(0, 3), x.choose(0, FAR), x.choose(0,
                LOW));
        Check.sentence("Returns the choice before; errors: BAD.");
        int now = 1;
        for (int how : new int[] {1, 2, 2, 0, 0, 1, 0, 2, 1}) {
            Check.due("choose, the choice", now + " " + how, x.choose(0, how), x.change(0, 1));
            now = how;
        }
        Check.each("none at all", -1, new ClauseDrafts().choose(0, 0), new ClauseDrafts().choose(0,
                1));
    }

    private static void decide() {
        Check.sentence("Sets the choice of several changes.");
        Check.sentence("how: 1 or 2: all open changes get this choice; 0: all changes that are not"
                + " open become open");
        ClauseDrafts x = eachKind();
        x.choose(1, 2);
        x.choose(2, 1);
        Check.due("accepted", "3 1 2 1 1 1", x.decide(1), x.change(0, 1), x.change(1, 1),
                x.change(2, 1), x.change(3, 1),
                x.change(4, 1));
        x.choose(0, 0);
        Check.due("refused", "1 2 2 1 1 1", x.decide(2), x.change(0, 1), x.change(1, 1), x.change(2,
                1), x.change(3, 1),
                x.change(4, 1));
        x.choose(4, 0);
        Check.due("open", "4 5 0 0", x.decide(0), x.count(1), x.count(2), x.count(3));
        Check.each("no choice", -1, x.decide(-1), x.decide(3), x.decide(FAR), x.decide(LOW));
        Check.sentence("Returns how many changes these are; errors: BAD.");
        Check.due("none is not open, all, none", "0 5 0 0 5", x.decide(0), x.decide(2), x.decide(1),
                x.decide(2), x.decide(0));
        x = new ClauseDrafts();
        Check.due("none at all", "0 0 0", x.decide(0), x.decide(1), x.decide(2));
    }

    private static void shown() {
        Check.sentence("Returns a property of what is shown.");
        ClauseDrafts x = Check.made("<0ab;1c#3;0d;0#2e#9;>0ab;0d;1cx#3;2;0#1e#8;");
        Check.sentence("way: 0 or 1");
        Check.each("ways", -1, x.shown(-1, 0), x.shown(2, 0), x.shown(FAR, 0), x.shown(LOW, 0));
        Check.sentence("what: 0 the number of clauses; 1 of words; 2 of words with the code 27; 3"
                + " the sum of the depths");
        Check.due("by way 0", "4 8 1 1", x.shown(0, 0), x.shown(0, 1), x.shown(0, 2), x.shown(0,
                3));
        Check.due("by way 1", "5 9 1 3", x.shown(1, 0), x.shown(1, 1), x.shown(1, 2), x.shown(1,
                3));
        Check.sentence("Returns it; errors: BAD.");
        Check.each("no such property", -1, x.shown(0, -1), x.shown(1, 4), x.shown(0, FAR),
                x.shown(0, LOW));
        x = Check.made("<0#1;1;2;3;>0#9#8;1;2;3;");
        Check.due("way 0 of full depths", "4 1 0 6", x.shown(0, 0), x.shown(0, 1), x.shown(0, 2),
                x.shown(0, 3));
        Check.due("lost ones that stand first", "4 2 2 6", x.shown(1, 0), x.shown(1, 1), x.shown(1,
                2), x.shown(1, 3));
        x = Check.made("<0a;1b#9;>0a;");
        Check.due("before a removal is accepted", "2 3 1 1", x.shown(0, 0), x.shown(0, 1),
                x.shown(0, 2), x.shown(0, 3));
        x.choose(0, 1);
        Check.due("after it", "1 1 0 0", x.shown(0, 0), x.shown(0, 1), x.shown(0, 2), x.shown(0, 3));
        x = Check.made("<0a;>0a#9;");
        Check.due("a lost word, then without it", "2 1 0 1 0", x.shown(1, 1), x.shown(1, 2),
                x.choose(0, 2), x.shown(1, 1), x.shown(1, 2));
        x = Check.made("<0a;>");
        Check.due("nothing is shown", "0 0 0 0", x.shown(1, 0), x.shown(1, 1), x.shown(1, 2),
                x.shown(1, 3));
    }

    private static void shownClause() {
        Check.sentence("Returns a property of a shown clause.");
        ClauseDrafts x = eachKind();
        Check.sentence("way: 0 or 1");
        Check.each("ways", -1, x.shownClause(-1, 0, 0), x.shownClause(2, 0, 0), x.shownClause(FAR,
                0, 0), x.shownClause(LOW, 9, 0));
        Check.sentence("i: the number of the shown clause, 0 or more");
        Check.each("below 0", -1, x.shownClause(0, -1, 0), x.shownClause(1, LOW, 0));
        Check.sentence("what: 0 its depth; 1 the number of its words; 2 the clause of the old"
                + " draft that it is, or is the same"
                + " clause as; 3 likewise of the new draft");
        String[][] want = {{"0 5 0 0", "1 1 1 -4", "1 1 2 2", "0 4 3 1"}, {"0 6 0 0", "0 4 3 1",
                "1 1 2 2", "1 2 -4 3"}};
        for (int way = 0; way <= 1; way++) {
            for (int i = 0; i < 4; i++) {
                Check.due("shown clause " + i + " by way " + way, want[way][i], x.shownClause(way,
                        i, 0), x.shownClause(way, i, 1),
                        x.shownClause(way, i, 2), x.shownClause(way, i, 3));
            }
        }
        Check.sentence("Returns it; NONE if there is no such shown clause, and for what = 2 and 3"
                + " if there is no such clause of the"
                + " draft; errors: BAD.");
        for (int what = 0; what <= 3; what++) {
            Check.each("no such shown clause", -4, x.shownClause(0, 4, what), x.shownClause(1, FAR,
                    what),
                    new ClauseDrafts().shownClause(0, 0, what));
        }
        Check.each("no such property", -1, x.shownClause(0, 0, -1), x.shownClause(0, 0, 4),
                x.shownClause(0, FAR, FAR),
                x.shownClause(1, 4, LOW));
        x.choose(2, 1);
        Check.due("one less", "3 -4 -4", x.shown(0, 0), x.shownClause(0, 3, 0), x.shownClause(0, 3,
                2));
    }

    private static void shownWord() {
        Check.sentence("Returns a word of a shown clause.");
        ClauseDrafts x = Check.made(MOVED);
        Check.sentence("way: 0 or 1");
        Check.each("ways", -1, x.shownWord(-1, 0, 0), x.shownWord(2, 0, 0), x.shownWord(FAR, 9, 9),
                x.shownWord(LOW, 0, 0));
        Check.sentence("i: the number of the shown clause, 0 or more");
        Check.each("clauses below 0", -1, x.shownWord(0, -1, 0), x.shownWord(1, LOW, FAR));
        Check.sentence("w: the number of the word, 0 or more");
        Check.each("words below 0", -1, x.shownWord(0, 0, -1), x.shownWord(1, 0, LOW),
                x.shownWord(0, 3, -1));
        Check.sentence("Returns its code; NONE if there is no such shown clause or word; errors:"
                + " BAD.");
        Check.due("codes by way 0", "1 2 32 -4", x.shownWord(0, 0, 0), x.shownWord(0, 0, 1),
                x.shownWord(0, 0, 2), x.shownWord(0, 0, 3));
        Check.due("codes by way 1", "4 5 6 -4 30 24", x.shownWord(1, 0, 0), x.shownWord(1, 0, 1),
                x.shownWord(1, 0, 2),
                x.shownWord(1, 0, 3), x.shownWord(1, 1, 2), x.shownWord(1, 2, 1));
        Check.each("none", -4, x.shownWord(0, 3, 0), x.shownWord(0, FAR, 0), x.shownWord(0, 0, FAR),
                x.shownWord(1, FAR, FAR),
                x.shownWord(0, 1, 1), new ClauseDrafts().shownWord(1, 0, 0));
        x = Check.made("<0a;0bcd;>0a;");
        Check.due("a clause that is shown no more", "2 0 -4 -4", x.shownWord(0, 1, 0), x.choose(0,
                1), x.shownWord(0, 1, 0),
                x.shownWord(0, 1, 2));
        x = Check.made("<0a;0bc;1de;1fg;>0a;");
        Check.due("a branch that is shown no more", "2 4 6 0 -4 -4 -4", x.shownWord(0, 1, 0),
                x.shownWord(0, 2, 0), x.shownWord(0, 3, 0), x.choose(0, 1), x.shownWord(0, 1, 0),
                x.shownWord(0, 2, 0), x.shownWord(0, 3, 1));
        x = Check.made("<0abcdem;>0mvwxyz;");
        x.choose(0, 2);
        x.choose(1, 1);
        Check.due("eleven words", "26 -4 -4", x.shownWord(0, 0, 10), x.shownWord(0, 0, 11),
                x.shownWord(0, 0, 12));
    }

    private static void find() {
        Check.sentence("Returns the shown clause that a clause is, or that is the same clause as"
                + " it.");
        ClauseDrafts x = Check.made(MOVED);
        Check.due("old ones", "0 1 2 1 2 0", x.find(0, 0, 0), x.find(0, 0, 1), x.find(0, 0, 2),
                x.find(1, 0, 0), x.find(1, 0, 1),
                x.find(1, 0, 2));
        Check.due("new ones", "2 0 1 0 1 2", x.find(0, 1, 0), x.find(0, 1, 1), x.find(0, 1, 2),
                x.find(1, 1, 0), x.find(1, 1, 1),
                x.find(1, 1, 2));
        Check.sentence("way: 0 or 1");
        Check.each("ways", -1, x.find(-1, 0, 0), x.find(2, 0, 0), x.find(FAR, 0, 0), x.find(LOW, 0,
                0));
        Check.sentence("side: 0 or 1");
        Check.each("sides", -1, x.find(0, -1, 0), x.find(0, 2, 0), x.find(1, FAR, 0), x.find(1, LOW,
                0));
        Check.sentence("c: the clause of this draft");
        Check.each("clauses", -1, x.find(0, 0, -1), x.find(0, 0, 3), x.find(1, 1, FAR), x.find(1, 1,
                LOW));
        Check.sentence("Returns the number of the shown clause; NONE if there is none; errors:"
                + " BAD.");
        x = eachKind();
        Check.due("not shown by way 0, nor by way 1", "-4 3 1 -4", x.find(0, 1, 3), x.find(1, 1, 3),
                x.find(0, 0, 1), x.find(1, 0, 1));
        x = Check.made("<0;0;0;0;0;0;0;0;>0;0;0;0;0;0;0;0;");
        Check.due("the eighth ones", "7 7 7 7", x.find(0, 0, 7), x.find(0, 1, 7), x.find(1, 0, 7),
                x.find(1, 1, 7));
        x = Check.made("<0;1;1;1;1;1;1;1;>");
        Check.due("the eighth one is removed", "7 -4", x.find(0, 0, 7), x.find(1, 0, 7));
    }

    private static void settle() {
        Check.sentence("Makes what is shown the old draft, where the code 27 becomes 39; the"
                + " drafts are compared again.");
        ClauseDrafts x = Check.made("<0#1#7a;0bcd;>0#2#9a;");
        x.decide(1);
        Check.due("settle", "1 39 39 1", x.settle(), x.word(0, 0, 0), x.word(0, 0, 1), x.word(0, 0,
                2));
        Check.same("the new draft stays", "0#2#9a;", Check.draft(x, 1));
        Check.due("compared again", "0 0 1", x.count(0), x.cost(0), x.count(4));
        x = Check.made("<0ab;>0ac;");
        x.decide(2);
        Check.due("settle of what was there", "1 1 1", x.settle(), x.count(0), x.count(1));
        Check.sentence("Returns the number of its clauses; errors: STATE if a change is open;");
        Check.due("open, accepted, settle", "-2 0 1 0", x.settle(), x.choose(0, 1), x.settle(),
                x.count(0));
        x = eachKind();
        for (int k = 0; k < 5; k++) {
            Check.due("settle with open ones", "-2 0", x.settle(), x.choose(k, 1));
        }
        Check.due("settle", 4, x.settle());
        Check.same("the old draft", "0abcd#1y;0efgh;1q;1zz;", Check.draft(x, 0));
        Check.due("without changes", "0 4 4", x.count(0), x.settle(), x.draft(0, 0));
        x = new ClauseDrafts();
        Check.due("without clauses", "0 0", x.settle(), x.draft(0, 0));
        x = Check.made("<0a;1b;0c;>");
        x.decide(1);
        Check.due("to nothing", "0 0 0", x.settle(), x.draft(0, 0), x.cost(0));
    }

    private static void settleWhereItIsFull() {
        Check.sentence("FULL if it would have more than 8 clauses or more than 6 words in a"
                + " clause.");
        ClauseDrafts x = Check.made("<0abcdef;1b;1c;1d;0uvwxyz;>0abcdef;0uvwxyz;1e;1f;1g;1h#2;");
        for (int k = 0; k < 7; k++) {
            x.choose(k, k < 3 ? 2 : 1);
        }
        Check.due("nine clauses", "-3 9 5", x.settle(), x.shown(0, 0), x.draft(0, 0));
        x.choose(0, 1);
        Check.due("eight clauses", "8 8", x.settle(), x.draft(0, 0));
        Check.same("the old draft", "0abcdef;1c;1d;0uvwxyz;1e;1f;1g;1h#4;", Check.draft(x, 0));
        for (int before = 0; before <= 5; before++) {
            for (int behind = 0; behind <= 5; behind++) {
                x = Check.made("<0" + "abcde".substring(0, before) + "m;>0m" + "vwxyz".substring(0,
                        behind) + ";");
                for (int k = 0; k < x.count(0); k++) {
                    x.choose(k, x.change(k, 5) > 0 ? 2 : 1);
                }
                int words = before + 1 + behind;
                Check.due(words + " words", words + (words > 6 ? " -3" : " 1"), x.shown(0, 1),
                        x.settle());
                Check.due("words then", words > 6 ? before + 1 : words, x.clause(0, 0, 1));
            }
        }
        x = Check.made("<0;0abcm;>0;0mxyz;");
        x.choose(0, 2);
        x.choose(1, 1);
        Check.due("seven words in the last clause", -3, x.settle());
        x = Check.made("<0abcm;0;>0mxyz;0;");
        x.choose(0, 2);
        x.choose(1, 1);
        Check.due("seven words in the first clause", -3, x.settle());
        x = Check.made("<0p;0abcm;>0mxyz;");
        x.choose(0, 2);
        x.choose(1, 2);
        x.choose(2, 1);
        Check.due("seven words in the second clause", "-3 2", x.settle(), x.shown(0, 0));
        x.choose(0, 1);
        Check.due("the same clause is the first one now", "-3 2 1", x.settle(), x.choose(1, 1), x.settle());
        Check.same("the old draft", "0mxyz;", Check.draft(x, 0));
        x = Check.made("<0abcdef;0abcdef;>0abcdef;0abcdef;");
        Check.due("more than six words in all", 2, x.settle());
    }
}
