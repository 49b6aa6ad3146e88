/** Promises 16 to 20: what is shown, and making it the old draft. */
final class ShownTest {
    private static final String TURN = "<0a#1;0b;0c;>0a#1;0n;0b;0c;";
    private static final String MOVED = "<0ab#2;0c;0def;>0def;0ab#0;0cx;";
    private static final int FAR = Integer.MAX_VALUE, LOW = Integer.MIN_VALUE;

    private ShownTest() {
    }

    public static void main(String[] args) {
        bothWays();
        turnsAndLostReferences();
        moves();
        stretches();
        sums();
        clausesAndWords();
        finding();
        referencesBehindTheTenth();
        settling();
        settlingTooMuch();
        Check.finish();
    }

    private static void shows(ClauseDrafts x, String refusing, String accepting) {
        Check.same("shown by way 0", refusing, Check.shown(x, 0));
        Check.same("shown by way 1", accepting, Check.shown(x, 1));
    }

    private static void bothWays() {
        shows(Check.made(TURN), "0a#1;0b;0c;", "0a#1;0n;0b;0c;");
        shows(Check.made(MOVED), "0ab#2;0c;0def;", "0def;0ab#0;0cx;");
        shows(Check.made("<0a;1b;2c;>"), "0a;1b;2c;", "");
        shows(Check.made("<>0a;1b#0;2c;"), "", "0a;1b#0;2c;");
        shows(Check.made("<0ab;1c#3;0d;0#2e;>0ab;0d;1cx#3;0#1e;"),
                "0ab;1c#3;0d;0#2e;", "0ab;0d;1cx#3;0#1e;");
        ClauseDrafts x = Check.made(TURN);
        x.decide(1);
        shows(x, "0a#1;0n;0b;0c;", "0a#1;0n;0b;0c;");
        x.decide(0);
        x.decide(2);
        shows(x, "0a#1;0b;0c;", "0a#1;0b;0c;");
    }

    private static void turnsAndLostReferences() {
        ClauseDrafts x = Check.made(TURN);
        x.choose(1, 1);
        shows(x, "0a#2;0n;0b;0c;", "0a#1;0n;0b;0c;");
        x.choose(0, 2);
        shows(x, "0a#2;0n;0b;0c;", "0a#2;0n;0b;0c;");
        x.choose(0, 1);
        x.choose(1, 2);
        shows(x, "0a?;0b;0c;", "0a?;0b;0c;");
        Check.due("lost words", "1 1", x.shown(0, 2), x.shown(1, 2));
        // dangling ones are lost too, and a removed clause takes its references along
        x = Check.made("<0a#7;0bcd#1;>0a#8;");
        shows(x, "0a?;0bcd#1;", "0a?;");
        // the reference of a refused turn leads to a clause that is removed
        x = Check.made("<0a#1;0bcd;0e;>0a#1;0e;");
        shows(x, "0a#1;0bcd;0e;", "0a#1;0e;");
        x.choose(0, 2);
        shows(x, "0a#1;0bcd;0e;", "0a?;0e;");
    }

    private static void moves() {
        ClauseDrafts x = Check.made(MOVED);
        x.choose(1, 1);
        shows(x, "0def;0ab#0;0c;", "0def;0ab#0;0cx;");
        x.choose(1, 2);
        shows(x, "0ab#2;0c;0def;", "0ab#2;0cx;0def;");
        x = Check.made("<0ab;1cdef;0g;>0ab;0cdef;0g;");
        shows(x, "0ab;1cdef;0g;", "0ab;0cdef;0g;");
        // a moved branch has its own words, so its references are those of the draft it is from
        x = Check.made("<0abxy;1c#0;0gvw;>0abxy;0gvw;1c#1;");
        shows(x, "0abxy;1c#0;0gvw;", "0abxy;0gvw;1c#1;");
    }

    private static void stretches() {
        ClauseDrafts x = Check.made("<0abm#0;>0mxy#0z;");
        Check.due("stretches", "3 3", x.count(0), x.count(8));
        shows(x, "0abm#0;", "0mxy#0z;");
        x.choose(0, 2);
        shows(x, "0abm#0;", "0abmxy#0z;");
        x.choose(1, 1);
        shows(x, "0abmxy#0;", "0abmxy#0z;");
        x.choose(0, 1);
        x.choose(2, 2);
        shows(x, "0mxy#0;", "0mxy#0;");
        x = Check.made("<0qqq;0a;1b;0c;>0ax;1by;0cz;");
        Check.due("a removal and three stretches", "1 3", x.count(5), x.count(8));
        x.choose(2, 1);
        shows(x, "0qqq;0a;1by;0c;", "0ax;1by;0cz;");
        x.choose(2, 2);
        x.choose(3, 1);
        shows(x, "0qqq;0a;1b;0cz;", "0ax;1b;0cz;");
        x = Check.made("<0abcdem;>0mvwxyz;");
        x.choose(0, 2);
        x.choose(1, 1);
        shows(x, "0abcdemvwxyz;", "0abcdemvwxyz;");
        Check.due("eleven words", "11 26 -4", x.shownClause(0, 0, 1), x.shownWord(0, 0, 10),
                x.shownWord(0, 0, 11));
    }

    private static void sums() {
        ClauseDrafts x = Check.made("<0ab;1c#3;0d;0#2e#9;>0ab;0d;1cx#3;2;0#1e#8;");
        Check.due("shown by way 0", "4 8 1 1", x.shown(0, 0), x.shown(0, 1), x.shown(0, 2),
                x.shown(0, 3));
        Check.due("shown by way 1", "5 9 1 3", x.shown(1, 0), x.shown(1, 1), x.shown(1, 2),
                x.shown(1, 3));
        Check.due("shown out of range", "-1 -1 -1 -1 -1 -1", x.shown(2, 0), x.shown(-1, 0),
                x.shown(0, 4), x.shown(0, -1), x.shown(FAR, 0), x.shown(1, LOW));
    }

    private static void clausesAndWords() {
        ClauseDrafts x = Check.made(MOVED);
        Check.due("old clauses by way 0", "0 1 2", x.shownClause(0, 0, 2), x.shownClause(0, 1, 2),
                x.shownClause(0, 2, 2));
        Check.due("new clauses by way 0", "1 2 0", x.shownClause(0, 0, 3), x.shownClause(0, 1, 3),
                x.shownClause(0, 2, 3));
        Check.due("old clauses by way 1", "2 0 1", x.shownClause(1, 0, 2), x.shownClause(1, 1, 2),
                x.shownClause(1, 2, 2));
        Check.due("new clauses by way 1", "0 1 2", x.shownClause(1, 0, 3), x.shownClause(1, 1, 3),
                x.shownClause(1, 2, 3));
        Check.due("no such shown clause", "-4 -4 -4 -4", x.shownClause(0, 3, 0),
                x.shownClause(1, FAR, 3), x.shownWord(0, 3, 0), x.shownWord(1, FAR, FAR));
        Check.due("shownClause out of range", "-1 -1 -1 -1 -1", x.shownClause(2, 0, 0),
                x.shownClause(-1, 0, 0), x.shownClause(0, -1, 0), x.shownClause(0, 0, 4),
                x.shownClause(0, 0, -1));
        Check.due("BAD comes before NONE", "-1 -1 -1", x.shownClause(0, 9, 4),
                x.shownWord(0, 9, -1), x.shownWord(0, -1, 9));
        Check.due("words", "1 2 32 -4 -4", x.shownWord(0, 0, 0), x.shownWord(0, 0, 1),
                x.shownWord(0, 0, 2), x.shownWord(0, 0, 3), x.shownWord(0, 0, FAR));
        Check.due("shownWord out of range", "-1 -1 -1 -1", x.shownWord(2, 0, 0),
                x.shownWord(-1, 0, 0), x.shownWord(0, -1, 0), x.shownWord(0, 0, -1));
        x = Check.made(TURN);
        Check.due("an added clause has no old one", "-4 1", x.shownClause(1, 1, 2),
                x.shownClause(1, 1, 3));
        x = Check.made("<0abc;1d;>0abc;");
        Check.due("a removed clause has no new one", "1 -4 1", x.shownClause(0, 1, 2),
                x.shownClause(0, 1, 3), x.shownClause(0, 1, 0));
    }

    private static void finding() {
        ClauseDrafts x = Check.made(MOVED);
        Check.due("find old by way 1", "1 2 0", x.find(1, 0, 0), x.find(1, 0, 1), x.find(1, 0, 2));
        Check.due("find new by way 0", "2 0 1", x.find(0, 1, 0), x.find(0, 1, 1), x.find(0, 1, 2));
        Check.due("find out of range", "-1 -1 -1 -1 -1 -1", x.find(2, 0, 0), x.find(-1, 0, 0),
                x.find(0, 2, 0), x.find(0, -1, 0), x.find(0, 0, 3), x.find(0, 0, -1));
        x = Check.made(TURN);
        Check.due("find what is not shown", "-4 1 2 3", x.find(0, 1, 1), x.find(1, 1, 1),
                x.find(1, 0, 1), x.find(1, 0, 2));
        x = Check.made("<0abc;1d;>0abc;");
        Check.due("find what is removed", "1 -4", x.find(0, 0, 1), x.find(1, 0, 1));
    }

    /** More clauses can be shown than a draft can have, and references lead to all of them. */
    private static void referencesBehindTheTenth() {
        ClauseDrafts x = Check.made(
                "<0abcdef;1b;1c;1d;1e;1p#5;0uvwxyz;>0abcdef;0uvwxyz;1k;1l;1m;1n;1q#6;");
        Check.due("changes", "10 5 5", x.count(0), x.count(5), x.count(6));
        for (int k = 0; k < 5; k++) {
            x.choose(k, 2);
            x.choose(5 + k, 1);
        }
        Check.due("clauses", 12, x.shown(0, 0));
        Check.due("references", "35 41", x.shownWord(0, 5, 1), x.shownWord(0, 11, 1));
        Check.due("settle", "-3 7", x.settle(), x.draft(0, 0));
    }

    private static void settling() {
        ClauseDrafts x = Check.made(TURN);
        Check.due("open changes", "-2 0", x.settle(), x.choose(0, 1));
        Check.due("an open change", "-2 0", x.settle(), x.choose(1, 2));
        Check.due("settle", 3, x.settle());
        Check.same("old draft", "0a#9;0b;0c;", Check.draft(x, 0));
        Check.same("new draft", "0a#1;0n;0b;0c;", Check.draft(x, 1));
        Check.due("compared again", "2 2 1 1", x.count(0), x.count(1), x.count(6), x.count(9));
        x.decide(1);
        Check.due("settle", 4, x.settle());
        Check.same("old draft", "0a#1;0n;0b;0c;", Check.draft(x, 0));
        Check.due("no changes", "0 0 4", x.count(0), x.cost(0), x.settle());
        x = Check.made("<0a#5;>0a#7;");
        Check.due("without changes", "0 1 39", x.count(0), x.settle(), x.word(0, 0, 1));
        x = Check.made("<0a;1b;>");
        x.keep(0);
        x.decide(1);
        Check.due("to nothing", "0 0 1", x.settle(), x.draft(0, 0), x.count(12));
        x = Check.made("<0ab;1cdef;0g#1;>0ab;0cdef;0g#1;");
        x.decide(1);
        Check.due("a move", 3, x.settle());
        Check.same("old draft", "0ab;0cdef;0g#1;", Check.draft(x, 0));
    }

    private static void settlingTooMuch() {
        ClauseDrafts x = Check.made(
                "<0abcdef;1b;1c;1d;0uvwxyz;>0abcdef;0uvwxyz;1e;1f;1g;1h;");
        for (int k = 0; k < 3; k++) {
            x.choose(k, 2);
        }
        x.choose(3, 1);
        x.choose(4, 1);
        x.choose(5, 1);
        Check.due("STATE comes before FULL", -2, x.settle());
        x.choose(6, 1);
        Check.due("nine clauses", "-3 7 1", x.settle(), x.count(0), x.change(6, 1));
        Check.same("nothing is changed", "0abcdef;1b;1c;1d;0uvwxyz;", Check.draft(x, 0));
        x.choose(5, 2);
        Check.due("eight clauses", 8, x.settle());
        Check.same("old draft", "0abcdef;1b;1c;1d;0uvwxyz;1e;1f;1h;", Check.draft(x, 0));
        x = Check.made("<0abcm;>0mxyz;");
        x.choose(0, 2);
        x.choose(1, 1);
        Check.due("seven words", "-3 4", x.settle(), x.clause(0, 0, 1));
        x = Check.made("<0abm;>0mxyz;");
        x.choose(0, 2);
        x.choose(1, 1);
        Check.due("six words", 1, x.settle());
        Check.same("old draft", "0abmxyz;", Check.draft(x, 0));
    }
}
