/** Promises 13 to 15: changes and their choices. */
final class ChangeTest {
    private static final int FAR = Integer.MAX_VALUE, LOW = Integer.MIN_VALUE;

    private ChangeTest() {
    }

    public static void main(String[] args) {
        branches();
        stretches();
        turns();
        order();
        outOfRange();
        choosing();
        deciding();
        Check.finish();
    }

    private static void changes(String text, String... want) {
        ClauseDrafts x = Check.made(text);
        Check.due("number of changes of " + text, want.length, x.count(0));
        for (int k = 0; k < want.length; k++) {
            Check.same("change " + k + " of " + text, want[k], Check.change(x, k));
        }
    }

    private static void branches() {
        changes("<0ab;1c#3;0d;0#2e;>0ab;0d;1cx#3;0#1e;",
                "0 0 1 -4 -4 -4 -4 -4", "1 0 -4 2 -4 -4 -4 -4");
        changes("<0ab;0c;0def;>0def;0ab;0cx;",
                "3 0 1 2 1 0 1 1", "2 0 2 0 -4 -4 -4 -4");
        // the move is told where its branch is removed, also if it is added before
        changes("<0aaaaaa;0b;1defgh;>0defgh;0aaaaaa;0b;1x;",
                "1 0 -4 0 -4 -4 -4 -4", "3 0 2 3 0 5 0 1");
        changes("<0abcdef;1x;1y;0q;>0abcdef;0x;0q;1y;",
                "2 0 1 1 -4 -4 -4 -4", "2 0 2 3 -4 -4 -4 -4");
        changes("<0a;1b;2c;>", "0 0 0 -4 -4 -4 -4 -4");
        changes("<>0a;1b;0c;", "1 0 -4 0 -4 -4 -4 -4", "1 0 -4 2 -4 -4 -4 -4");
        changes("<0a;1b;>0a;1b;");
        changes("<>");
    }

    private static void stretches() {
        changes("<0abcd;>0xacyd;",
                "3 0 0 0 0 0 0 1", "3 0 0 0 1 1 2 0", "3 0 0 0 3 0 3 1");
        changes("<0ab;>0cde;", "3 0 0 0 0 2 0 3");
        changes("<0ab;>0;", "3 0 0 0 0 2 0 0");
        changes("<0;>0ab;", "3 0 0 0 0 0 0 2");
        changes("<0abc;>0axxc;", "3 0 0 0 1 1 1 2");
        changes("<0abc;>0abd;", "3 0 0 0 2 1 2 1");
    }

    private static void turns() {
        changes("<0a#0b;0c;>0ax#1;0c;",
                "3 0 0 0 1 0 1 1", "4 0 0 0 1 1 2 1", "3 0 0 0 2 1 3 0");
        // both dangle; only one does
        changes("<0#5#5#0;>0#6#0#5;", "4 0 0 0 1 1 1 1", "4 0 0 0 2 1 2 1");
        // another number, but the same clause by a pair, or by a move
        changes("<0ab#2;0c#1;0def;>0def;0ab#0;0c#2;", "2 0 2 0 -4 -4 -4 -4");
        // the same number, but another clause
        changes("<0a#1;0b;0c;>0a#1;0n;0b;0c;", "4 0 0 0 1 1 1 1", "1 0 -4 1 -4 -4 -4 -4");
        // to a clause that is removed
        changes("<0a#1;0bcd;0e;>0a#1;0e;", "4 0 0 0 1 1 1 1", "0 0 1 -4 -4 -4 -4 -4");
    }

    private static void order() {
        changes("<0a;1b;0c;>0ax;1by;0cz;",
                "3 0 0 0 1 0 1 1", "3 0 1 1 1 0 1 1", "3 0 2 2 1 0 1 1");
        changes("<0ab;1c;0defg;>0abx;0defg;1h;",
                "3 0 0 0 2 0 2 1", "0 0 1 -4 -4 -4 -4 -4", "1 0 -4 2 -4 -4 -4 -4");
    }

    private static void outOfRange() {
        ClauseDrafts x = Check.made("<0a;>0ab;");
        Check.due("change out of range", "-1 -1 -1 -1 -1 -1", x.change(1, 0), x.change(-1, 0),
                x.change(0, 8), x.change(0, -1), x.change(FAR, 0), x.change(0, LOW));
        Check.due("choose out of range", "-1 -1 -1 -1 -1 -1", x.choose(1, 0), x.choose(-1, 0),
                x.choose(0, 3), x.choose(0, -1), x.choose(FAR, 0), x.choose(0, LOW));
        Check.due("decide out of range", "-1 -1 -1 -1", x.decide(-1), x.decide(3), x.decide(FAR),
                x.decide(LOW));
        Check.due("nothing was chosen", 0, x.change(0, 1));
        x = new ClauseDrafts();
        Check.due("no changes", "-1 -1 0 0 0", x.change(0, 0), x.choose(0, 1), x.decide(0),
                x.decide(1), x.decide(2));
    }

    private static void choosing() {
        ClauseDrafts x = Check.made("<0abcd;>0xacyd;");
        Check.due("choose", "0 0 1 2 1", x.choose(0, 1), x.choose(1, 2), x.choose(0, 2),
                x.choose(1, 1), x.choose(1, 0));
        Check.due("choices", "2 0 0", x.change(0, 1), x.change(1, 1), x.change(2, 1));
    }

    private static void deciding() {
        ClauseDrafts x = Check.made("<0abcd;>0xacyd;");
        x.choose(1, 2);
        Check.due("decide(1)", 2, x.decide(1));
        Check.due("choices", "1 2 1", x.change(0, 1), x.change(1, 1), x.change(2, 1));
        Check.due("none is open", "0 0", x.decide(1), x.decide(2));
        x.choose(2, 0);
        Check.due("decide(2)", 1, x.decide(2));
        Check.due("choices", "1 2 2", x.change(0, 1), x.change(1, 1), x.change(2, 1));
        x.choose(0, 0);
        Check.due("decide(0)", 2, x.decide(0));
        Check.due("choices", "0 0 0", x.change(0, 1), x.change(1, 1), x.change(2, 1));
        Check.due("decide(0), decide(2)", "0 3", x.decide(0), x.decide(2));
    }
}
