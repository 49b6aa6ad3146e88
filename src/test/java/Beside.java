import java.util.List;

/** An object of the class and one of the model, of which the same is asked. */
class Beside {
    static int wrong = 0;
    private static long asked = 0;
    private static final long[] kinds = new long[5];

    final ClauseDrafts x = new ClauseDrafts();
    final Model m = new Model();
    private final StringBuilder log = new StringBuilder();

    /** Ends the test; it also fails if the runs were too poor to tell anything. */
    static void finish(boolean rich) {
        System.out.println(asked + " answers, " + wrong + " wrong; changes of the kinds 0 to 4: "
                + kinds[0] + " " + kinds[1] + " " + kinds[2] + " " + kinds[3] + " " + kinds[4]);
        boolean poor = !rich;
        for (long seen : kinds) {
            poor |= seen == 0;
        }
        if (wrong > 0 || poor) {
            System.exit(1);
        }
    }

    void same(String call, int want, int got) {
        asked++;
        log.append(call).append(" -> ").append(got).append('\n');
        tell(call, want, got);
    }

    /** Without a line in the log, for runs that are too long to be told. */
    void quietly(String call, int want, int got) {
        asked++;
        tell(call, want, got);
    }

    private void tell(String call, int want, int got) {
        if (want != got) {
            wrong++;
            if (wrong == 1) {
                System.out.println(log);
            }
            if (wrong < 20) {
                System.out.println(call + " answered " + got + ", the model says " + want);
            }
        }
    }

    void feedText(String text) {
        for (int i = 0; i < text.length(); i++) {
            int c = text.charAt(i);
            same("feed(" + c + ")", m.feed(c), x.feed(c));
        }
    }

    private void ask(String name, int want, int got, int... with) {
        asked++;
        if (want != got) {
            StringBuilder call = new StringBuilder(name);
            for (int v : with) call.append(' ').append(v);
            tell(call.toString(), want, got);
        }
    }

    void askAll() {
        for (int what = 5; what <= 9; what++) kinds[what - 5] += x.count(what);
        ask("fault", m.fault(), x.fault());
        for (int what = -1; what <= 14; what++) ask("count", m.count(what), x.count(what), what);
        for (int what = -1; what <= 5; what++) ask("cost", m.cost(what), x.cost(what), what);
        for (int side = -1; side <= 2; side++) askDraft(side);
        for (int a = -1; a <= 8; a++) {
            for (int b = -1; b <= 8; b++) ask("between", m.between(a, b), x.between(a, b), a, b);
        }
        for (int k = -1; k <= m.count(0); k++) {
            for (int what = -1; what <= 8; what++) {
                ask("change", m.change(k, what), x.change(k, what), k, what);
            }
        }
        askShown(0);
        askShown(1);
        ask("shown", -1, x.shown(2, 0));
        ask("shown", -1, x.shown(-1, 0));
        ask("shownClause", -1, x.shownClause(2, 0, 0));
        ask("shownWord", -1, x.shownWord(-1, 0, 0));
        ask("find", -1, x.find(2, 0, 0));
    }

    private void askDraft(int side) {
        for (int what = -1; what <= 5; what++) ask("draft", m.draft(side, what), x.draft(side, what), side, what);
        for (int c = -1; c <= 8; c++) {
            for (int what = -1; what <= 7; what++) {
                ask("clause", m.clause(side, c, what), x.clause(side, c, what), side, c, what);
            }
            for (int w = -1; w <= 6; w++) {
                ask("word", m.word(side, c, w), x.word(side, c, w), side, c, w);
                ask("kept", m.kept(side, c, w), x.kept(side, c, w), side, c, w);
                ask("leads", m.leads(side, c, w), x.leads(side, c, w), side, c, w);
            }
        }
    }

    void askShown(int way) {
        List<Model.ShownClause> all = m.show(way);
        for (int what = -1; what <= 4; what++) {
            ask("shown", Model.shown(all, what), x.shown(way, what), way, what);
        }
        for (int i = -1; i <= 16; i++) {
            for (int what = -1; what <= 4; what++) {
                ask("shownClause", Model.shownClause(all, i, what), x.shownClause(way, i, what), way, i, what);
            }
            for (int w = -1; w <= 12; w++) {
                ask("shownWord", Model.shownWord(all, i, w), x.shownWord(way, i, w), way, i, w);
            }
        }
        for (int side = -1; side <= 2; side++) {
            for (int c = -1; c <= 8; c++) {
                ask("find", m.find(all, side, c), x.find(way, side, c), way, side, c);
            }
        }
    }
}
