/** What the tests share: counting wrong answers, and making objects from a text. */
final class Check {
    private static int asked = 0;
    private static int wrong = 0;

    private Check() {
    }

    static void due(String call, int want, int got) {
        asked++;
        if (got != want) {
            wrong++;
            System.out.println(call + " answered " + got + ", due is " + want);
        }
    }

    static void holds(String what, boolean is) {
        due(what + " (1 is yes)", 1, is ? 1 : 0);
    }

    /** The answers of one call for several arguments, told as one line. */
    static void due(String calls, String want, int... got) {
        asked++;
        StringBuilder all = new StringBuilder();
        for (int g : got) {
            all.append(all.length() == 0 ? "" : " ").append(g);
        }
        if (!all.toString().equals(want)) {
            wrong++;
            System.out.println(calls + " answered " + all + ", due is " + want);
        }
    }

    static void feed(ClauseDrafts x, String text) {
        for (int i = 0; i < text.length(); i++) {
            int length = x.count(11);
            due("feed of " + text, length + 1, x.feed(text.charAt(i)));
        }
    }

    static int read(ClauseDrafts x, String text) {
        feed(x, text);
        return x.text();
    }

    static ClauseDrafts made(String text) {
        ClauseDrafts x = new ClauseDrafts();
        holds(text + " is read", read(x, text) >= 0);
        return x;
    }

    /** A draft, written as the tape has it. */
    static String draft(ClauseDrafts x, int side) {
        StringBuilder all = new StringBuilder();
        for (int c = 0; c < x.draft(side, 0); c++) {
            all.append(x.clause(side, c, 0));
            for (int w = 0; w < x.clause(side, c, 1); w++) {
                sign(all, x.word(side, c, w));
            }
            all.append(';');
        }
        return all.toString();
    }

    /** What is shown, written as the tape has it; ? is a reference that leads nowhere. */
    static String shown(ClauseDrafts x, int way) {
        StringBuilder all = new StringBuilder();
        for (int i = 0; i < x.shown(way, 0); i++) {
            all.append(x.shownClause(way, i, 0));
            for (int w = 0; w < x.shownClause(way, i, 1); w++) {
                sign(all, x.shownWord(way, i, w));
            }
            all.append(';');
        }
        return all.toString();
    }

    /** All properties of a change. */
    static String change(ClauseDrafts x, int k) {
        StringBuilder all = new StringBuilder();
        for (int what = 0; what <= 7; what++) {
            all.append(what == 0 ? "" : " ").append(x.change(k, what));
        }
        return all.toString();
    }

    static void same(String what, String want, String got) {
        asked++;
        if (!got.equals(want)) {
            wrong++;
            System.out.println(what + " is " + got + ", due is " + want);
        }
    }

    private static void sign(StringBuilder all, int code) {
        if (code == 27) {
            all.append('?');
        } else if (code >= 30) {
            all.append('#').append(code - 30);
        } else {
            all.append((char) ('a' + code - 1));
        }
    }

    /** Ends the test: an exit code of 1 if an answer was wrong, or if none was asked for. */
    static void finish() {
        System.out.println(asked + " answers, " + wrong + " wrong");
        if (wrong > 0 || asked == 0) {
            System.exit(1);
        }
    }
}
