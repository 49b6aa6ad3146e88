import java.util.ArrayList;
import java.util.List;

/**
 * All small drafts against each other, with all choices of their changes, and all short texts, on
 * the class and on the model. All of them take some minutes: without an argument only one of
 * several pairs of drafts is taken.
 */
final class SmallTest extends Beside {
    private static final int ONE_OF = 97;
    private static final int MANY_CHANGES = 5;
    private static final String SIGNS = "<>013a#; *";
    private static int settled = 0;

    private SmallTest() {
    }

    public static void main(String[] args) {
        int step = args.length > 0 ? Math.max(1, Integer.parseInt(args[0])) : ONE_OF;
        new SmallTest().shortTexts(args.length > 0 ? 7 : 5);
        List<String> drafts = new ArrayList<>();
        collect(drafts, 2, words(2, "a", "#0", "#1"), "", 0, -1);
        comparePairs(drafts, step);
        drafts.clear();
        collect(drafts, 3, words(1, "a", "#0", "#2"), "", 0, -1);
        comparePairs(drafts, step);
        drafts.clear();
        collect(drafts, 4, words(1, "a"), "", 0, -1);
        comparePairs(drafts, step);
        finish(settled > 0);
    }

    /** All rows of at most so many of these words. */
    private static List<String> words(int most, String... some) {
        List<String> all = new ArrayList<>(List.of(""));
        int begin = 0;
        for (int n = 0; n < most; n++) {
            int end = all.size();
            for (int i = begin; i < end; i++) {
                for (String word : some) all.add(all.get(i) + word);
            }
            begin = end;
        }
        return all;
    }

    private static void collect(List<String> drafts, int most, List<String> words, String before,
            int clauses, int depth) {
        drafts.add(before);
        if (clauses == most) return;
        for (int d = 0; d <= Math.min(3, depth + 1); d++) {
            for (String w : words) collect(drafts, most, words, before + d + w + ";", clauses + 1, d);
        }
    }

    private static void comparePairs(List<String> drafts, int step) {
        long end = (long) drafts.size() * drafts.size();
        for (long i = 0; i < end && wrong == 0; i += step) {
            String old = drafts.get((int) (i / drafts.size()));
            String fresh = drafts.get((int) (i % drafts.size()));
            new SmallTest().compare("<" + old + ">" + fresh, (int) (i % 4));
        }
    }

    private void compare(String text, int head) {
        feedText(text);
        same("text()", m.text(), x.text());
        same("head(" + head + ")", m.head(head), x.head(head));
        askAll();
        same("keep(1)", m.keep(1), x.keep(1));
        chooseFrom(Math.max(0, m.count(0) - MANY_CHANGES));
    }

    /** Every choice of this change and of those behind it; where none is open, it is settled. */
    private void chooseFrom(int k) {
        if (k == m.count(0)) {
            askShown(0);
            askShown(1);
            settleAndBack();
            return;
        }
        for (int how = 0; how <= 2 && wrong == 0; how++) {
            same("choose(" + k + ", " + how + ")", m.choose(k, how), x.choose(k, how));
            chooseFrom(k + 1);
        }
    }

    private void settleAndBack() {
        same("keep(0)", m.keep(0), x.keep(0));
        int got = x.settle();
        settled += got > 0 ? 1 : 0;
        same("settle()", m.settle(), got);
        if (got >= 0) {
            askAll();
            same("back(0)", m.back(0), x.back(0));
        }
    }

    /** One object reads them all: what an earlier text left behind must not matter. */
    private void shortTexts(int longest) {
        for (int length = 0; length <= longest; length++) {
            long end = Math.round(Math.pow(SIGNS.length(), length));
            for (long number = 0; number < end && wrong == 0; number++) {
                readText(number, length);
            }
        }
    }

    private void readText(long number, int length) {
        StringBuilder text = new StringBuilder();
        long rest = number;
        for (int i = 0; i < length; i++) {
            text.append(SIGNS.charAt((int) (rest % SIGNS.length())));
            rest /= SIGNS.length();
        }
        for (int i = 0; i < length; i++) {
            m.feed(text.charAt(i));
            x.feed(text.charAt(i));
        }
        int want = m.text();
        quietly("text() of " + text, want, x.text());
        quietly("fault() of " + text, m.fault(), x.fault());
        if (want >= 0) {
            askAll();
        }
    }
}
