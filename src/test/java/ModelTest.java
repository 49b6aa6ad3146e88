import java.util.Random;

/** Random runs on the class and on the model; after each call everything is asked of both. */
final class ModelTest extends Beside {
    private static final int RUNS = 1500, CALLS = 40;
    private static int fulls = 0;
    private static int settled = 0;

    private final Random random;

    private ModelTest(long seed) {
        random = new Random(seed);
    }

    public static void main(String[] args) {
        int runs = args.length > 0 ? Integer.parseInt(args[0]) : RUNS;
        long start = args.length > 1 ? Long.parseLong(args[1]) : 0;
        for (long seed = start; seed < start + runs && wrong == 0; seed++) {
            new ModelTest(seed).run();
        }
        System.out.println("settled " + settled + ", too full to settle " + fulls);
        finish(fulls > 0 && settled > 0);
    }

    private void run() {
        int beginning = random.nextInt(12);
        if (beginning == 0) {
            fillDrafts();
        } else if (beginning > 1) {
            feedText(someText());
            same("text()", m.text(), x.text());
        }
        askAll();
        for (int call = 0; call < CALLS && wrong == 0; call++) {
            act();
            askAll();
        }
    }

    private int upTo(int high) {
        return random.nextInt(high + 1);
    }

    /** Mostly a number from 0 to high, sometimes one that is out of range, or far out. */
    private int around(int high) {
        int r = random.nextInt(40);
        if (r == 0) return -1;
        if (r == 1) return high + 1;
        if (r == 2) return random.nextBoolean() ? Integer.MAX_VALUE : Integer.MIN_VALUE;
        return high < 0 ? 0 : upTo(high);
    }

    private int code() {
        int r = random.nextInt(60);
        if (r == 0) return new int[] {0, 27, 28, 29, 40, -1, 26, 39}[random.nextInt(8)];
        return r < 25 ? 30 + upTo(9) : 1 + upTo(2);
    }

    /** No text has room for two drafts that are as full as they can be. */
    private void fillDrafts() {
        int letters = 1 + upTo(3);
        for (int side = 0; side <= 1; side++) {
            for (int c = 0; c < 8; c++) {
                int depth = upTo(3);
                while (m.add(side, depth) < 0) depth--;
                same("add(" + side + ", " + depth + ")", c, x.add(side, depth));
                for (int w = 0; w < 6; w++) {
                    int code = random.nextInt(3) == 0 ? 30 + upTo(9) : 1 + upTo(letters);
                    String call = "insert(" + side + ", " + c + ", 0, " + code + ")";
                    same(call, m.insert(side, c, 0, code), x.insert(side, c, 0, code));
                }
            }
        }
    }

    private String someText() {
        StringBuilder old = new StringBuilder();
        int n = upTo(8);
        int depth = -1;
        for (int c = 0; c < n; c++) {
            depth = random.nextInt(4) == 0 ? 0 : upTo(Math.min(3, depth + 1));
            old.append(depth).append(someWords()).append(';');
        }
        String text = "<" + old + ">" + (random.nextInt(3) == 0 ? otherDraft() : edited(old.toString()));
        if (random.nextInt(12) == 0 && text.length() > 2) {
            int at = random.nextInt(text.length());
            text = text.substring(0, at) + "<>#; a0123A".charAt(random.nextInt(11))
                    + text.substring(at + random.nextInt(2));
        }
        return text.length() > 160 ? text.substring(0, 160) : text;
    }

    private String someWords() {
        StringBuilder words = new StringBuilder();
        int n = random.nextInt(5) == 0 ? 6 : upTo(3);
        for (int w = 0; w < n; w++) {
            if (random.nextInt(3) == 0) {
                words.append('#').append(upTo(9));
            } else {
                words.append((char) ('a' + upTo(2)));
            }
        }
        return words.toString();
    }

    private String otherDraft() {
        StringBuilder all = new StringBuilder();
        int depth = -1;
        for (int c = upTo(8); c > 0; c--) {
            depth = upTo(Math.min(3, depth + 1));
            all.append(depth).append(someWords()).append(';');
        }
        return all.toString();
    }

    /** The same clauses with some moved, left out, put in or changed, as far as the depths allow. */
    private String edited(String draft) {
        String[] clauses = draft.isEmpty() ? new String[0] : draft.split(";");
        for (int t = upTo(3); t > 0 && clauses.length > 1; t--) {
            int i = random.nextInt(clauses.length);
            int j = random.nextInt(clauses.length);
            String other = clauses[i];
            clauses[i] = clauses[j];
            clauses[j] = other;
        }
        StringBuilder all = new StringBuilder();
        int last = -1;
        int n = 0;
        for (String clause : clauses) {
            int r = random.nextInt(10);
            if (r == 0) continue;
            int depth = Math.min(clause.charAt(0) - '0', Math.min(3, last + 1));
            all.append(depth).append(r == 1 ? someWords() : clause.substring(1)).append(';');
            last = depth;
            n++;
            if (r == 2 && n + clauses.length < 8) {
                all.append(upTo(Math.min(3, last + 1))).append(someWords()).append(';');
                last = all.charAt(all.lastIndexOf(";", all.length() - 2) + 1) - '0';
            }
        }
        return all.toString();
    }

    private void act() {
        int side = around(1);
        int c = around(Math.max(0, m.draft(side & 1, 0) - 1));
        int w = around(Math.max(0, m.clause(side & 1, Math.max(0, c), 1)));
        switch (random.nextInt(24)) {
            case 0: case 1: case 2: case 3: case 4: case 5: case 6: {
                int k = around(Math.max(0, m.count(0) - 1));
                int how = around(2);
                same("choose(" + k + ", " + how + ")", m.choose(k, how), x.choose(k, how));
                break;
            }
            case 7: case 8: {
                int how = around(2);
                same("decide(" + how + ")", m.decide(how), x.decide(how));
                break;
            }
            case 9: {
                if (random.nextInt(3) > 0) {
                    int how = 1 + upTo(1);
                    same("decide(" + how + ")", m.decide(how), x.decide(how));
                }
                int got = x.settle();
                fulls += got == -3 ? 1 : 0;
                settled += got > 0 ? 1 : 0;
                same("settle()", m.settle(), got);
                break;
            }
            case 10: {
                int v = around(9);
                same("head(" + v + ")", m.head(v), x.head(v));
                break;
            }
            case 11: {
                int v = code();
                String call = "write(" + side + ", " + c + ", " + w + ", " + v + ")";
                same(call, m.write(side, c, w, v), x.write(side, c, w, v));
                break;
            }
            case 12: case 13: {
                int v = code();
                String call = "insert(" + side + ", " + c + ", " + w + ", " + v + ")";
                same(call, m.insert(side, c, w, v), x.insert(side, c, w, v));
                break;
            }
            case 14:
                same("erase(" + side + ", " + c + ", " + w + ")", m.erase(side, c, w),
                        x.erase(side, c, w));
                break;
            case 15: {
                int depth = around(3);
                same("add(" + side + ", " + depth + ")", m.add(side, depth), x.add(side, depth));
                break;
            }
            case 16:
                same("strike(" + side + ", " + c + ")", m.strike(side, c), x.strike(side, c));
                break;
            case 17:
                same("swap(" + side + ", " + c + ")", m.swap(side, c), x.swap(side, c));
                break;
            default:
                actOnTheRest(c);
        }
    }

    private void actOnTheRest(int c) {
        int k = around(3);
        switch (random.nextInt(9)) {
            case 0:
                same("exchange()", m.exchange(), x.exchange());
                break;
            case 1:
                same("keep(" + k + ")", m.keep(k), x.keep(k));
                break;
            case 2: case 3:
                same("back(" + k + ")", m.back(k), x.back(k));
                break;
            case 4: {
                int lane = around(1);
                int n = around(random.nextBoolean() ? 6 : 20);
                String call = "sheet(" + k + ", " + lane + ", " + n + ")";
                same(call, m.sheet(k, lane, n), x.sheet(k, lane, n));
                break;
            }
            case 5: case 6: {
                for (int i = 0; i < 6; i++) {
                    int at = around(i);
                    int v = random.nextInt(20) == 0 ? 65536 + code() : code();
                    String call = "lay(" + k + ", " + at + ", " + v + ")";
                    same(call, m.lay(k, at, v), x.lay(k, at, v));
                }
                break;
            }
            case 7: {
                int lane = around(1);
                int f = around(2);
                int n = around(7);
                String call = "paste(" + k + ", " + lane + ", " + f + ", " + c + ", " + n + ")";
                same(call, m.paste(k, lane, f, c, n), x.paste(k, lane, f, c, n));
                break;
            }
            default:
                if (random.nextBoolean()) {
                    feedText(someText());
                    same("text()", m.text(), x.text());
                } else {
                    int n = around(2);
                    same("end(" + n + ")", m.end(n), x.end(n));
                }
        }
    }
}
