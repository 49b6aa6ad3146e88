/** Promises 21 to 28: editing. */
final class EditTest {
    private static final int FAR = Integer.MAX_VALUE, LOW = Integer.MIN_VALUE;

    private EditTest() {
    }

    public static void main(String[] args) {
        heads();
        writing();
        inserting();
        erasing();
        adding();
        striking();
        swapping();
        swappingChildren();
        exchanging();
        comparedAgain();
        Check.finish();
    }

    private static void drafts(ClauseDrafts x, String old, String fresh) {
        Check.same("old draft", old, Check.draft(x, 0));
        Check.same("new draft", fresh, Check.draft(x, 1));
    }

    private static void heads() {
        ClauseDrafts x = Check.made("<0a;1b;>0a;");
        Check.due("head out of range", "-1 -1 -1 -1", x.head(-1), x.head(10), x.head(FAR), x.head(LOW));
        Check.due("head", "2 0 9", x.head(0), x.head(9), x.head(9));
        Check.due("weight and cost", "20 10", x.clause(0, 0, 3), x.cost(0));
    }

    private static void writing() {
        ClauseDrafts x = Check.made("<0ab;>0#1;");
        Check.due("write", "1 31 2", x.write(0, 0, 0, 26), x.write(1, 0, 0, 39), x.write(0, 0, 1, 30));
        drafts(x, "0z#0;", "0#9;");
        Check.due("write", "26 1", x.write(0, 0, 0, 1), x.write(0, 0, 0, 1));
        int[] wrong = {0, -1, 27, 28, 29, 40, FAR, LOW};
        for (int code : wrong) {
            Check.due("write of " + code, -1, x.write(0, 0, 0, code));
            Check.due("insert of " + code, -1, x.insert(0, 0, 0, code));
        }
        Check.due("write out of range", "-1 -1 -1 -1 -1 -1", x.write(0, 0, 2, 1),
                x.write(0, 0, -1, 1), x.write(0, 1, 0, 1), x.write(0, -1, 0, 1),
                x.write(2, 0, 0, 1), x.write(-1, 0, 0, 1));
        drafts(x, "0a#0;", "0#9;");
    }

    private static void inserting() {
        ClauseDrafts x = Check.made("<0;0a;>0bc;");
        Check.due("insert", "3 4 5", x.insert(1, 0, 0, 1), x.insert(1, 0, 3, 26), x.insert(1, 0, 2, 35));
        drafts(x, "0;0a;", "0ab#5cz;");
        Check.due("insert", "1 2 3", x.insert(0, 0, 0, 5), x.insert(0, 0, 0, 4), x.insert(0, 0, 1, 39));
        drafts(x, "0d#9e;0a;", "0ab#5cz;");
        Check.due("insert out of range", "-1 -1 -1 -1 -1 -1", x.insert(0, 0, 4, 1),
                x.insert(0, 0, -1, 1), x.insert(0, 2, 0, 1), x.insert(0, -1, 0, 1),
                x.insert(2, 0, 0, 1), x.insert(-1, 0, 0, 1));
        Check.due("the sixth and the seventh", "6 -3 -3", x.insert(1, 0, 5, 3), x.insert(1, 0, 6, 3),
                x.insert(1, 0, 0, 3));
        Check.due("BAD comes before FULL", "-1 -1", x.insert(1, 0, 7, 3), x.insert(1, 0, 0, 27));
        drafts(x, "0d#9e;0a;", "0ab#5czc;");
    }

    private static void erasing() {
        ClauseDrafts x = Check.made("<0abcdef;0;>0a;");
        Check.due("erase", "5 4 3", x.erase(0, 0, 0), x.erase(0, 0, 4), x.erase(0, 0, 1));
        drafts(x, "0bde;0;", "0a;");
        Check.due("erase", "0 -1", x.erase(1, 0, 0), x.erase(1, 0, 0));
        Check.due("erase out of range", "-1 -1 -1 -1 -1 -1", x.erase(0, 0, 3), x.erase(0, 0, -1),
                x.erase(0, 1, 0), x.erase(0, 2, 0), x.erase(2, 0, 0), x.erase(-1, 0, 0));
        Check.due("erase far out of range", "-1 -1", x.erase(0, 0, FAR), x.erase(0, LOW, 0));
        drafts(x, "0bde;0;", "0;");
    }

    private static void adding() {
        ClauseDrafts x = new ClauseDrafts();
        Check.due("add to nothing", "-1 -1 -1 -1 -1", x.add(0, 1), x.add(0, -1), x.add(2, 0),
                x.add(-1, 0), x.add(0, FAR));
        Check.due("add", "0 -1 1 -1 2 -1 3", x.add(0, 0), x.add(0, 2), x.add(0, 1), x.add(0, 3),
                x.add(0, 2), x.add(0, 4), x.add(0, 3));
        Check.due("not deeper than 3", "-1 4 5", x.add(0, 4), x.add(0, 3), x.add(0, 1));
        Check.due("add", "-1 6 7", x.add(0, 3), x.add(0, 0), x.add(0, 0));
        Check.due("a ninth", "-3 -3 -1 -1 8", x.add(0, 0), x.add(0, 1), x.add(0, 2), x.add(0, -1),
                x.draft(0, 0));
        drafts(x, "0;1;2;3;3;1;0;0;", "");
        Check.due("the new draft", "-1 0", x.add(1, 1), x.add(1, 0));
        x = Check.made("<0abc;0def;>");
        x.strike(0, 1);
        x.add(0, 0);
        drafts(x, "0abc;0;", "");
    }

    private static void striking() {
        ClauseDrafts x = Check.made("<0a#4;1b;2c;1d;0e#1;>0x;0y#0;");
        Check.due("strike", 3, x.strike(0, 1));
        drafts(x, "0a#4;1d;0e#1;", "0x;0y#0;");
        Check.due("strike", "1 1", x.strike(1, 0), x.strike(0, 0));
        drafts(x, "0e#1;", "0y#0;");
        Check.due("strike out of range", "-1 -1 -1 -1 -1", x.strike(0, 1), x.strike(0, -1),
                x.strike(2, 0), x.strike(-1, 0), x.strike(0, FAR));
        Check.due("strike the last ones", "0 0 -1", x.strike(0, 0), x.strike(1, 0), x.strike(0, 0));
        drafts(x, "", "");
    }

    private static void swapping() {
        ClauseDrafts x = Check.made("<0a#2;1b#0;0c#1#7;>0a;0b;");
        Check.due("swap", 1, x.swap(0, 0));
        drafts(x, "0c#2#7;0a#0;1b#1;", "0a;0b;");
        Check.due("swap", 2, x.swap(0, 0));
        drafts(x, "0a#2;1b#0;0c#1#7;", "0a;0b;");
        Check.due("swap the last one of a row", "-4 -4", x.swap(0, 1), x.swap(0, 2));
        Check.due("swap out of range", "-1 -1 -1 -1 -1", x.swap(0, 3), x.swap(0, -1),
                x.swap(2, 0), x.swap(-1, 0), x.swap(1, FAR));
        Check.due("swap of the new draft", 1, x.swap(1, 0));
        drafts(x, "0a#2;1b#0;0c#1#7;", "0b;0a;");
    }

    private static void swappingChildren() {
        ClauseDrafts x = Check.made("<>0#1#2#3#4#5#6;1a;2b#1;1c;2d;2e#3;0#0f#8;");
        Check.due("swap", 4, x.swap(1, 1));
        drafts(x, "", "0#4#5#1#2#3#6;1c;2d;2e#1;1a;2b#4;0#0f#8;");
        Check.due("a child that is the last one before an uncle", "-4 -4", x.swap(1, 4), x.swap(1, 5));
        Check.due("swap", 3, x.swap(1, 2));
        drafts(x, "", "0#4#5#1#3#2#6;1c;2e#1;2d;1a;2b#4;0#0f#8;");
        Check.due("swap", 1, x.swap(1, 0));
        drafts(x, "", "0#1f#8;0#5#6#2#4#3#0;1c;2e#2;2d;1a;2b#5;");
    }

    private static void exchanging() {
        ClauseDrafts x = Check.made("<0ab;1c;>0a;0#1;");
        int before = x.cost(0);
        Check.due("exchange", before, x.exchange());
        drafts(x, "0a;0#1;", "0ab;1c;");
        x.strike(0, 0);
        x.strike(0, 0);
        Check.due("exchange with nothing", "7 2 0", x.exchange(), x.draft(0, 0), x.draft(1, 0));
        Check.due("removed, not added", "7 0", x.cost(2), x.cost(3));
        Check.due("exchange of nothing", 0, new ClauseDrafts().exchange());
    }

    /** After each successful edit all changes are open, even if nothing is different. */
    private static void comparedAgain() {
        ClauseDrafts x = Check.made("<0a;>0ab;0c;1d;0;");
        for (int edit = 0; edit < 10; edit++) {
            x.decide(1);
            Check.holds("nothing is open", x.count(0) > 0 && x.count(1) == 0);
            switch (edit) {
                case 0: x.head(2); break;
                case 1: x.write(0, 0, 0, 1); break;
                case 2: x.insert(1, 1, 0, 5); break;
                case 3: x.erase(1, 1, 0); break;
                case 4: x.add(1, 0); break;
                case 5: x.strike(1, 3); break;
                case 6: x.swap(1, 1); break;
                case 7: x.exchange(); break;
                case 8: x.exchange(); break;
                default: x.sheet(0, 0, 0); x.paste(0, 0, 0, 1, 0); break;
            }
            Check.due("open ones after edit " + edit, x.count(0), x.count(1));
        }
        x.decide(1);
        int last = x.draft(1, 0) - 1;
        Check.due("calls that change nothing", "-1 -1 -1 -1 -4 -1 -1", x.head(10),
                x.write(0, 0, 0, 27), x.insert(0, 0, 9, 1), x.erase(0, 0, 6), x.swap(1, last),
                x.strike(1, 8), x.add(0, 3));
        Check.due("nothing is open", 0, x.count(1));
    }
}
