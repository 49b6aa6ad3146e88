import java.util.function.ToIntFunction;

/** ERRORS of the document's description: which error is told, and that nothing is changed then. */
final class ErrorEdges {
    private static final int FAR = Check.FAR, LOW = Check.LOW;

    private ErrorEdges() {
    }

    static void run() {
        Check.section("ERRORS");
        codes();
        badArguments();
        statesAndRoom();
        otherNumbers();
        firstOfSeveral();
        nothingIsChanged();
        nothingIsChangedWhereItIsFull();
        noneOnlyWithoutErrors();
    }

    /** Something of everything: changes of several kinds, choices, images, sheets and a tape. */
    static ClauseDrafts rich() {
        ClauseDrafts x = Check.made("<0ab#2;0c;1m;0def;>0def;0ab#0;0cx;1m;");
        x.head(3);
        x.choose(0, 1);
        x.keep(0);
        x.insert(1, 3, 0, 39);
        x.write(0, 1, 0, 5);
        x.choose(1, 2);
        x.keep(1);
        x.choose(0, 2);
        x.sheet(0, 0, 4);
        x.sheet(2, 1, 20);
        for (int i = 0; i < 20; i++) {
            x.lay(0, i, 1 + i);
            x.lay(2, i, i < 10 ? 30 + i : i);
        }
        x.lay(2, 12, 29);
        Check.feed(x, "<0q;>");
        return x;
    }

    /** Eight clauses on both sides, one of them with six words. */
    static ClauseDrafts full() {
        ClauseDrafts x = Check.made("<0abcdef;1;2;3;3;2;1;0;>0abcdey;1;2;3;0;0;0;0;");
        x.choose(0, 1);
        x.keep(0);
        return x;
    }

    private static void codes() {
        Check.sentence("ERRORS. A method reports an error by returning one of the following"
                + " codes;");
        ClauseDrafts x = full();
        Check.due("BAD, STATE, FULL", "-1 -2 -3", x.add(0, 4), x.back(1), x.add(0, 0));
        Check.due("the constants", "-1 -2 -3 -4", ClauseDrafts.BAD, ClauseDrafts.STATE,
                ClauseDrafts.FULL, ClauseDrafts.NONE);
    }

    private static void badArguments() {
        Check.sentence("BAD (-1): an argument is outside the range that its @param gives,");
        ClauseDrafts x = rich();
        Check.each("arguments below", -1, x.feed(-1), x.end(-1), x.draft(-1, 0), x.draft(0, -1),
                x.clause(0, 0, -1), x.cost(-1), x.change(0, -1), x.choose(0, -1), x.decide(-1),
                x.shown(-1, 0), x.shown(0, -1), x.head(-1), x.write(0, 0, 0, 0), x.add(0, -1),
                x.keep(-1), x.back(-1), x.sheet(-1, 0, 1), x.lay(-1, 0, 1), x.count(-1));
        Check.each("arguments above", -1, x.feed(128), x.end(6), x.draft(2, 0), x.draft(0, 5),
                x.clause(0, 0, 7), x.cost(5), x.change(0, 8), x.choose(0, 3), x.decide(3),
                x.shown(2, 0), x.shown(0, 4), x.head(10), x.write(0, 0, 0, 40), x.add(0, 4),
                x.keep(2), x.back(2), x.sheet(4, 0, 1), x.lay(4, 0, 1), x.count(14));
        Check.sentence("or names something that does not exist.");
        Check.each("clauses, words and changes that do not exist", -1, x.clause(0, 4, 0),
                x.word(1, 4, 0), x.kept(0, 0, 3), x.leads(1, 1, 3), x.between(4, 0),
                x.between(0, 4), x.change(x.count(0), 0), x.choose(x.count(0), 0), x.find(0, 0, 4),
                x.write(0, 0, 3, 1), x.insert(0, 4, 0, 1), x.erase(0, 0, 3), x.strike(1, 4),
                x.swap(0, 4), x.paste(0, 0, 0, 4, 1));
    }

    private static void statesAndRoom() {
        Check.sentence("STATE (-2): the call is not possible now, as the method says.");
        ClauseDrafts x = full();
        Check.due("settle with open changes, back to nothing", "-2 -2", x.settle(), x.back(1));
        x.decide(2);
        Check.due("settle without open changes, back to something", "8 4", x.settle(), x.back(0));
        Check.sentence("FULL (-3): there is no room.");
        Check.due("a ninth clause, a seventh word", "-3 -3", x.add(1, 0), x.insert(0, 0, 0, 1));
        x.strike(1, 7);
        x.erase(0, 0, 5);
        Check.due("an eighth clause, a sixth word", "7 6", x.add(1, 0), x.insert(0, 0, 0, 1));
    }

    private static void otherNumbers() {
        Check.sentence("Some methods return other negative numbers, as they say.");
        ClauseDrafts x = rich();
        Check.due("sheet, lay, paste", "-14 -11 -13 -11 -12 -13 -22", x.sheet(0, 0, -1),
                x.lay(1, 0, 1), x.lay(0, 4, 1), x.paste(1, 0, 0, 0, 1), x.paste(0, 1, 0, 0, 1),
                x.paste(0, 0, 4, 0, 1), x.paste(2, 1, 10, 0, 3));
        Check.feed(x, "*");
        Check.due("text", -15, x.text());
    }

    private static void firstOfSeveral() {
        Check.sentence("of several that apply it is the first one in this list.");
        ClauseDrafts x = full();
        Check.each("BAD and FULL", -1, x.insert(0, 0, 7, 1), x.insert(0, 0, -1, 1),
                x.insert(0, 0, 0, 0), x.insert(0, 0, 6, 27), x.add(0, 2), x.add(0, -1), x.add(1,
                        4));
        while (x.count(11) < 160) {
            x.feed(' ');
        }
        Check.due("BAD and FULL of the tape", "-1 -1 -3", x.feed(-1), x.feed(128), x.feed(0));
        Check.each("BAD and STATE", -1, new ClauseDrafts().back(-1), new ClauseDrafts().back(2));
        x = Check.made("<0abcm;>0mxyz;0q;");
        x.choose(0, 2);
        x.choose(1, 1);
        Check.due("STATE and FULL", "-2 0 -3", x.settle(), x.choose(2, 1), x.settle());
        Check.each("BAD and another number", -1, x.sheet(4, 0, -1), x.sheet(0, -1, -1),
                x.lay(4, -1, 0), x.paste(4, 0, -1, 0, -1), x.paste(0, 2, -1, 0, -1),
                x.paste(0, 0, -1, 2, -1));
    }

    private static void nothing(String call, int want, ToIntFunction<ClauseDrafts> act) {
        Check.refused(call, want, ErrorEdges::rich, act);
    }

    private static void nothingIsChanged() {
        Check.sentence("A call that returns an error or such a number changes nothing (but see"
                + " text()).");
        nothing("feed", -1, x -> x.feed(128));
        nothing("end", -1, x -> x.end(6));
        nothing("end", -1, x -> x.end(-1));
        nothing("choose", -1, x -> x.choose(0, 3));
        nothing("choose", -1, x -> x.choose(-1, 0));
        nothing("decide", -1, x -> x.decide(3));
        nothing("decide", -1, x -> x.decide(-1));
        nothing("settle", -2, x -> x.settle());
        nothing("head", -1, x -> x.head(10));
        nothing("write", -1, x -> x.write(0, 0, 0, 29));
        nothing("write", -1, x -> x.write(0, 0, 3, 1));
        nothing("insert", -1, x -> x.insert(1, 0, 4, 1));
        nothing("insert", -1, x -> x.insert(1, 0, 3, 40));
        nothing("erase", -1, x -> x.erase(1, 0, 3));
        nothing("add", -1, x -> x.add(0, 2));
        nothing("strike", -1, x -> x.strike(0, 4));
        nothing("swap", -1, x -> x.swap(0, 4));
        nothing("swap of the last one", -4, x -> x.swap(0, 3));
        nothing("keep", -1, x -> x.keep(2));
        nothing("back", -1, x -> x.back(2));
        nothing("sheet", -1, x -> x.sheet(0, 0, 21));
        nothing("sheet", -1, x -> x.sheet(0, 2, 2));
        nothing("sheet", -14, x -> x.sheet(0, 0, -1));
        nothing("lay", -1, x -> x.lay(4, 0, 7));
        nothing("lay", -11, x -> x.lay(1, 0, 7));
        nothing("lay", -13, x -> x.lay(0, 4, 7));
        nothing("lay", -13, x -> x.lay(0, -1, 7));
        nothing("paste", -1, x -> x.paste(0, 0, 0, 4, 2));
        nothing("paste", -11, x -> x.paste(3, 0, 0, 0, 2));
        nothing("paste", -12, x -> x.paste(0, 1, 0, 0, 2));
        nothing("paste", -13, x -> x.paste(0, 0, 3, 0, 2));
        nothing("paste", -13, x -> x.paste(2, 1, 0, 0, 7));
        nothing("paste", -22, x -> x.paste(2, 1, 10, 0, 6));
        nothing("questions", -1, x -> Math.max(x.draft(2, 0), Math.max(x.cost(9), x.count(FAR))));
        nothing("questions", -1, x -> Math.max(x.word(0, LOW, 0), x.kept(0, FAR, FAR)));
    }

    private static ClauseDrafts tooManyWords() {
        ClauseDrafts x = Check.made("<0abcm;>0mxyz;");
        x.choose(0, 2);
        x.choose(1, 1);
        x.keep(1);
        return x;
    }

    private static ClauseDrafts tooManyClauses() {
        ClauseDrafts x = Check.made("<0abcdef;1b;1c;1d;0uvwxyz;>0abcdef;0uvwxyz;1e;1f;1g;1h;");
        for (int k = 0; k < 7; k++) {
            x.choose(k, k < 3 ? 2 : 1);
        }
        return x;
    }

    private static ClauseDrafts fullTape() {
        ClauseDrafts x = rich();
        while (x.count(11) < 160) {
            x.feed(' ');
        }
        return x;
    }

    private static void nothingIsChangedWhereItIsFull() {
        Check.refused("settle", -3, ErrorEdges::tooManyWords, x -> x.settle());
        Check.refused("settle", -3, ErrorEdges::tooManyClauses, x -> x.settle());
        Check.refused("feed", -3, ErrorEdges::fullTape, x -> x.feed('0'));
        Check.refused("feed", -1, ErrorEdges::fullTape, x -> x.feed(128));
        Check.refused("insert", -3, ErrorEdges::full, x -> x.insert(0, 0, 6, 1));
        Check.refused("insert", -3, ErrorEdges::full, x -> x.insert(0, 0, 0, 39));
        Check.refused("add", -3, ErrorEdges::full, x -> x.add(0, 1));
        Check.refused("add", -3, ErrorEdges::full, x -> x.add(1, 0));
        Check.refused("back", -2, ErrorEdges::full, x -> x.back(1));
    }

    private static void noneOnlyWithoutErrors() {
        Check.sentence("NONE (-4) is not an error; it means \"there is none\",");
        ClauseDrafts x = Check.made("<0a;>0ab;");
        Check.each("there is none", -4, x.word(0, 0, 1), x.word(0, 0, FAR), x.clause(0, 0, 2),
                x.kept(1, 0, 1), x.leads(0, 0, 0), x.shownClause(0, 1, 0), x.shownWord(0, 0, 1),
                x.shownWord(0, FAR, FAR), x.swap(0, 0), x.count(13));
        Check.sentence("and is returned only if no error applies.");
        Check.each("there is none, but an argument is wrong", -1, x.word(0, -1, FAR),
                x.word(2, 0, FAR), x.clause(2, 0, 2), x.kept(1, 0, 2), x.leads(0, 0, 1),
                x.shownClause(0, 1, 4), x.shownClause(2, 1, 0), x.shownClause(0, FAR, -1),
                x.shownWord(0, 0, -1), x.shownWord(0, FAR, -1), x.shownWord(0, -1, FAR),
                x.shownWord(2, FAR, FAR), x.swap(2, 0), x.swap(0, 1));
    }
}
