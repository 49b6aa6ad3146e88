import java.util.function.Supplier;
import java.util.function.ToIntFunction;

/** What the tests share: counting wrong answers, and making objects from a text. */
final class Check {
    static final int FAR = Integer.MAX_VALUE, LOW = Integer.MIN_VALUE;

    private static int asked = 0;
    private static int wrong = 0;
    private static String section = "";
    private static String sentence = "";

    private Check() {
    }

    /** The part of the document to which the sentences that follow belong. */
    static void section(String name) {
        section = name;
        sentence = "";
    }

    /** Says which sentence the following checks hold the class to; wrong answers tell it. */
    static void sentence(String quoted) {
        sentence = quoted;
        holds(section + " has this sentence", Sentences.quote(section, quoted));
    }

    private static void tellWrong(String what) {
        wrong++;
        System.out.println(what + (sentence.isEmpty() ? "" : "\n    " + section + ": " + sentence));
    }

    static void due(String call, int want, int got) {
        asked++;
        if (got != want) {
            tellWrong(call + " answered " + got + ", due is " + want);
        }
    }

    /** The same answer for several calls. */
    static void each(String calls, int want, int... got) {
        for (int i = 0; i < got.length; i++) {
            due(calls + ", number " + i + " of them,", want, got[i]);
        }
    }

    static void holds(String what, boolean is) {
        due(what + " (1 is yes)", 1, is ? 1 : 0);
    }

    /** The answers of one call for several arguments, told as one line. */
    static void due(String calls, String want, int... got) {
        asked++;
        StringBuilder all = new StringBuilder();
        for (int g : got) {
            all.append(all.length() == 0 ? "" : " ").append(g);
        }
        if (!all.toString().equals(want)) {
            tellWrong(calls + " answered " + all + ", due is " + want);
        }
    }

    static void feed(ClauseDrafts x, String text) {
        for (int i = 0; i < text.length(); i++) {
            int length = x.count(11);
            due("feed of " + text, length + 1, x.feed(text.charAt(i)));
        }
    }

    static int read(ClauseDrafts x, String text) {
        feed(x, text);
        return x.text();
    }

    static ClauseDrafts made(String text) {
        ClauseDrafts x = new ClauseDrafts();
        holds(text + " is read", read(x, text) >= 0);
        return x;
    }

    /** A draft, written as the tape has it. */
    static String draft(ClauseDrafts x, int side) {
        StringBuilder all = new StringBuilder();
        for (int c = 0; c < x.draft(side, 0); c++) {
            all.append(x.clause(side, c, 0));
            for (int w = 0; w < x.clause(side, c, 1); w++) {
                sign(all, x.word(side, c, w));
            }
            all.append(';');
        }
        return all.toString();
    }

    /** What is shown, written as the tape has it; ? is a reference that leads nowhere. */
    static String shown(ClauseDrafts x, int way) {
        StringBuilder all = new StringBuilder();
        for (int i = 0; i < x.shown(way, 0); i++) {
            all.append(x.shownClause(way, i, 0));
            for (int w = 0; w < x.shownClause(way, i, 1); w++) {
                sign(all, x.shownWord(way, i, w));
            }
            all.append(';');
        }
        return all.toString();
    }

    /** All properties of a change. */
    static String change(ClauseDrafts x, int k) {
        StringBuilder all = new StringBuilder();
        for (int what = 0; what <= 7; what++) {
            all.append(what == 0 ? "" : " ").append(x.change(k, what));
        }
        return all.toString();
    }

    static void same(String what, String want, String got) {
        asked++;
        if (!got.equals(want)) {
            tellWrong(what + " is " + got + ", due is " + want);
        }
    }

    /** A call whose answer tells that it did nothing, and a look whether it really did nothing. */
    static void refused(String call, int want, Supplier<ClauseDrafts> make,
            ToIntFunction<ClauseDrafts> act) {
        ClauseDrafts x = make.get();
        ClauseDrafts untouched = make.get();
        due(call, want, act.applyAsInt(x));
        same("everything after " + call, everything(untouched), everything(x));
    }

    /** All answers that change nothing, in one text. */
    static String answers(ClauseDrafts x) {
        StringBuilder all = new StringBuilder("fault ").append(x.fault()).append(" count");
        for (int what = 0; what <= 13; what++) all.append(' ').append(x.count(what));
        all.append(" cost");
        for (int what = 0; what <= 4; what++) all.append(' ').append(x.cost(what));
        for (int side = 0; side <= 1; side++) {
            all.append(" draft ").append(draft(x, side));
            for (int what = 0; what <= 4; what++) all.append(' ').append(x.draft(side, what));
            for (int c = 0; c < x.draft(side, 0); c++) clauseAnswers(all, x, side, c);
        }
        for (int a = 0; a < x.draft(0, 0); a++) {
            for (int b = 0; b < x.draft(1, 0); b++) all.append(' ').append(x.between(a, b));
        }
        for (int k = 0; k < x.count(0); k++) all.append(" change ").append(change(x, k));
        for (int way = 0; way <= 1; way++) shownAnswers(all, x, way);
        return all.toString();
    }

    private static void clauseAnswers(StringBuilder all, ClauseDrafts x, int side, int c) {
        all.append(" clause");
        for (int what = 0; what <= 6; what++) all.append(' ').append(x.clause(side, c, what));
        for (int w = 0; w < x.clause(side, c, 1); w++) {
            all.append(' ').append(x.kept(side, c, w)).append(' ').append(x.leads(side, c, w));
        }
        all.append(" find ").append(x.find(0, side, c)).append(' ').append(x.find(1, side, c));
    }

    private static void shownAnswers(StringBuilder all, ClauseDrafts x, int way) {
        all.append(" shown ").append(shown(x, way));
        for (int what = 0; what <= 3; what++) all.append(' ').append(x.shown(way, what));
        for (int i = 0; i < x.shown(way, 0); i++) {
            all.append(' ').append(x.shownClause(way, i, 2));
            all.append(' ').append(x.shownClause(way, i, 3));
        }
    }

    /** All answers, then what is in the images, the sheets and the tape: the object is used up. */
    static String everything(ClauseDrafts x) {
        StringBuilder all = new StringBuilder(answers(x));
        all.append(" head ").append(x.head(1));
        for (int k = 0; k <= 1; k++) {
            all.append(" back ").append(x.back(k)).append(' ').append(answers(x));
            all.append(" head ").append(x.head(1));
        }
        x.add(1, 0);
        for (int k = 0; k <= 3; k++) {
            for (int lane = 0; lane <= 1; lane++) {
                for (int f = 0; f <= 20; f++) {
                    all.append(' ').append(x.paste(k, lane, f, 0, 1)).append(x.word(1, 0, 0));
                }
            }
        }
        return all.append(" text ").append(x.text()).append(' ').append(answers(x)).toString();
    }

    private static void sign(StringBuilder all, int code) {
        if (code == 27) {
            all.append('?');
        } else if (code >= 30) {
            all.append('#').append(code - 30);
        } else {
            all.append((char) ('a' + code - 1));
        }
    }

    /** Ends the test: an exit code of 1 if an answer was wrong, or if none was asked for. */
    static void finish() {
        System.out.println(asked + " answers, " + wrong + " wrong");
        if (wrong > 0 || asked == 0) {
            System.exit(1);
        }
    }
}
