import java.util.ArrayList;
import java.util.Arrays;
import java.util.HashMap;
import java.util.List;
import java.util.Map;

/**
 * The document once more, in another way than the class does it: clauses are trees, the costs are
 * found by trying, and nothing is kept between two comparisons. The tests hold the class against it.
 */
final class Model {
    static final int BAD = -1, STATE = -2, FULL = -3, NONE = -4;

    static final class Clause {
        int depth;
        List<Integer> words = new ArrayList<>();

        Clause(int depth) {
            this.depth = depth;
        }

        Clause copy() {
            Clause c = new Clause(depth);
            c.words.addAll(words);
            return c;
        }
    }

    static final class Node {
        int number;
        Clause clause;
        List<Node> children = new ArrayList<>();
    }

    /** A pair, or a branch that is removed (b is null) or added (a is null). */
    record Item(Node a, Node b) {
    }

    static final class Change {
        int kind;
        int choice;
        int a = NONE;
        int b = NONE;
        int[] words = {NONE, NONE, NONE, NONE};
    }

    static final class ShownClause {
        int depth;
        int a = NONE;
        int b = NONE;
        List<int[]> origins = new ArrayList<>();
        List<Integer> words = new ArrayList<>();
    }

    static final class Image {
        List<List<Clause>> drafts;
        int head;
        List<Integer> choices = new ArrayList<>();
    }

    private static final class Fault extends Exception {
        private static final long serialVersionUID = 1L;
        final int kind;
        final int place;

        Fault(int kind, int place) {
            this.kind = kind;
            this.place = place;
        }
    }

    List<List<Clause>> drafts = new ArrayList<>(List.of(new ArrayList<>(), new ArrayList<>()));
    int head = 2;
    String tape = "";
    int faultKind = 0;
    Image[] images = new Image[2];
    Object[] sheets = new Object[4];

    // what a comparison finds
    private List<Item> sequence;
    private List<Change> changes;
    private Map<String, Integer> rowCosts;
    private List<Map<Integer, Integer>> same;
    private List<Map<Integer, Integer>> fates;
    private Map<String, Integer> keptWords;
    private List<List<Node>> nodes;
    private List<List<Node>> roots;
    private int renumbered;
    private int[] costs;

    Model() {
        compare();
    }

    // ---- the tape

    int feed(int c) {
        if (c < 0 || c > 127) return BAD;
        if (tape.length() == 160) return FULL;
        tape = tape + (char) c;
        return tape.length();
    }

    int end(int n) {
        int had = tape.length();
        if (n < 0 || n > had) return BAD;
        tape = tape.substring(0, n);
        return had;
    }

    private int at;
    private String input;

    int text() {
        input = tape;
        tape = "";
        at = 0;
        try {
            take("<");
            List<Clause> first = parseDraft(true);
            take(">");
            List<Clause> second = parseDraft(false);
            drafts = new ArrayList<>(List.of(first, second));
        } catch (Fault f) {
            faultKind = f.kind;
            return -10 - f.place;
        }
        faultKind = 0;
        images = new Image[2];
        compare();
        return drafts.get(0).size() + drafts.get(1).size();
    }

    /** The next character that is not a blank; 0 at the end of the text. */
    private char peek() throws Fault {
        while (at < input.length() && input.charAt(at) == ' ') at++;
        if (at == input.length()) return 0;
        char c = input.charAt(at);
        if ("abcdefghijklmnopqrstuvwxyz0123456789<>#;".indexOf(c) < 0) throw new Fault(1, at);
        return c;
    }

    private char take(String allowed) throws Fault {
        char c = peek();
        if (c == 0 || allowed.indexOf(c) < 0) throw new Fault(2, at);
        at++;
        return c;
    }

    private List<Clause> parseDraft(boolean isOld) throws Fault {
        List<Clause> draft = new ArrayList<>();
        while (true) {
            char c = peek();
            if (isOld ? c == '>' : c == 0) return draft;
            int depth = take("0123456789") - '0';
            if (draft.size() == 8) throw new Fault(3, at - 1);
            int highest = draft.isEmpty() ? 0 : Math.min(3, draft.get(draft.size() - 1).depth + 1);
            if (depth > highest) throw new Fault(4, at - 1);
            Clause clause = new Clause(depth);
            draft.add(clause);
            parseWords(clause);
        }
    }

    private void parseWords(Clause clause) throws Fault {
        while (true) {
            char c = take("abcdefghijklmnopqrstuvwxyz#;");
            if (c == ';') return;
            if (clause.words.size() == 6) throw new Fault(5, at - 1);
            clause.words.add(c == '#' ? 30 + take("0123456789") - '0' : c - 'a' + 1);
        }
    }

    int fault() {
        return faultKind;
    }

    // ---- comparing

    private static boolean isRef(int code) {
        return code >= 30;
    }

    private static boolean alike(int u, int v) {
        return isRef(u) ? isRef(v) : u == v;
    }

    private static List<Node> forest(List<Clause> draft, List<Node> all) {
        List<Node> top = new ArrayList<>();
        Node[] path = new Node[4];
        for (int i = 0; i < draft.size(); i++) {
            Node n = new Node();
            n.number = i;
            n.clause = draft.get(i);
            int d = n.clause.depth;
            path[d] = n;
            (d == 0 ? top : path[d - 1].children).add(n);
            all.add(n);
        }
        return top;
    }

    private static List<Node> branch(Node n) {
        List<Node> all = new ArrayList<>();
        all.add(n);
        for (Node child : n.children) all.addAll(branch(child));
        return all;
    }

    private int weight(Node n) {
        int sum = 0;
        for (Node m : branch(n)) sum += head + m.clause.words.size();
        return sum;
    }

    private final Map<String, Integer> wordCosts = new HashMap<>();

    /** Tries every choice of old words that may stay. */
    private int wordCost(List<Integer> u, List<Integer> v) {
        String key = u + "|" + v;
        Integer known = wordCosts.get(key);
        if (known != null) return known;
        int most = 0;
        for (int set = 0; set < 1 << u.size(); set++) {
            int j = 0;
            boolean fits = true;
            for (int i = 0; i < u.size() && fits; i++) {
                if ((set >> i & 1) == 0) continue;
                while (j < v.size() && !alike(u.get(i), v.get(j))) j++;
                fits = j < v.size();
                j++;
            }
            if (fits) most = Math.max(most, Integer.bitCount(set));
        }
        int cost = u.size() + v.size() - 2 * most;
        wordCosts.put(key, cost);
        return cost;
    }

    private int cost(Node a, Node b) {
        return wordCost(a.clause.words, b.clause.words) + rowCost(a.children, b.children);
    }

    private static <T> List<T> rest(List<T> list) {
        return list.subList(1, list.size());
    }

    private int rowCost(List<Node> r, List<Node> s) {
        StringBuilder key = new StringBuilder();
        for (Node n : r) key.append(n.number);
        key.append('|');
        for (Node n : s) key.append(n.number);
        Integer known = rowCosts.get(key.toString());
        if (known != null) return known;
        int least = r.isEmpty() && s.isEmpty() ? 0 : Integer.MAX_VALUE;
        if (!r.isEmpty()) least = Math.min(least, weight(r.get(0)) + rowCost(rest(r), s));
        if (!s.isEmpty()) least = Math.min(least, weight(s.get(0)) + rowCost(r, rest(s)));
        if (!r.isEmpty() && !s.isEmpty()) {
            least = Math.min(least, cost(r.get(0), s.get(0)) + rowCost(rest(r), rest(s)));
        }
        rowCosts.put(key.toString(), least);
        return least;
    }

    private void pairRows(List<Node> r, List<Node> s) {
        while (!r.isEmpty() || !s.isEmpty()) {
            int least = rowCost(r, s);
            Node a = r.isEmpty() ? null : r.get(0);
            Node b = s.isEmpty() ? null : s.get(0);
            if (a != null && b != null && cost(a, b) + rowCost(rest(r), rest(s)) == least) {
                sequence.add(new Item(a, b));
                pairRows(a.children, b.children);
                r = rest(r);
                s = rest(s);
            } else if (a != null && weight(a) + rowCost(rest(r), s) == least) {
                sequence.add(new Item(a, null));
                r = rest(r);
            } else {
                sequence.add(new Item(null, b));
                s = rest(s);
            }
        }
    }

    private void compare() {
        rowCosts = new HashMap<>();
        sequence = new ArrayList<>();
        changes = new ArrayList<>();
        nodes = List.of(new ArrayList<>(), new ArrayList<>());
        roots = List.of(forest(drafts.get(0), nodes.get(0)), forest(drafts.get(1), nodes.get(1)));
        same = List.of(new HashMap<>(), new HashMap<>());
        fates = List.of(new HashMap<>(), new HashMap<>());
        keptWords = new HashMap<>();
        renumbered = 0;
        costs = new int[5];
        costs[0] = rowCost(roots.get(0), roots.get(1));
        pairRows(roots.get(0), roots.get(1));
        for (Item item : sequence) note(item);
        findMoves();
        for (Item item : sequence) addChanges(item);
    }

    private void note(Item item) {
        if (item.a != null && item.b != null) {
            same.get(0).put(item.a.number, item.b.number);
            same.get(1).put(item.b.number, item.a.number);
            fates.get(0).put(item.a.number, 0);
            fates.get(1).put(item.b.number, 0);
            costs[1] += wordCost(item.a.clause.words, item.b.clause.words);
            pairWords(item.a, item.b);
        } else {
            int side = item.a != null ? 0 : 1;
            Node n = item.a != null ? item.a : item.b;
            costs[2 + side] += weight(n);
            for (Node m : branch(n)) fates.get(side).put(m.number, 1);
        }
    }

    private void pairWords(Node a, Node b) {
        List<Integer> u = a.clause.words;
        List<Integer> v = b.clause.words;
        int i = 0;
        int j = 0;
        while (i < u.size() || j < v.size()) {
            int least = wordCost(u.subList(i, u.size()), v.subList(j, v.size()));
            if (i < u.size() && j < v.size() && alike(u.get(i), v.get(j))
                    && wordCost(u.subList(i + 1, u.size()), v.subList(j + 1, v.size())) == least) {
                keptWords.put("0 " + a.number + " " + i, j);
                keptWords.put("1 " + b.number + " " + j, i);
                i++;
                j++;
            } else if (i < u.size()
                    && 1 + wordCost(u.subList(i + 1, u.size()), v.subList(j, v.size())) == least) {
                i++;
            } else {
                j++;
            }
        }
    }

    /** What two branches must share to be like each other. */
    private static String likeness(Node n) {
        StringBuilder all = new StringBuilder();
        for (Node m : branch(n)) {
            all.append(m.clause.depth - n.clause.depth).append(':');
            for (int code : m.clause.words) all.append(isRef(code) ? 30 : code).append(',');
        }
        return all.toString();
    }

    private void findMoves() {
        List<Node> removed = new ArrayList<>();
        List<Node> added = new ArrayList<>();
        for (Item item : sequence) {
            if (item.b == null) removed.add(item.a);
            if (item.a == null) added.add(item.b);
        }
        removed.sort((m, n) -> m.number - n.number);
        added.sort((m, n) -> m.number - n.number);
        for (Node a : removed) {
            for (Node b : added) {
                if (fates.get(1).get(b.number) == 1 && likeness(a).equals(likeness(b))) {
                    List<Node> u = branch(a);
                    List<Node> v = branch(b);
                    for (int i = 0; i < u.size(); i++) {
                        same.get(0).put(u.get(i).number, v.get(i).number);
                        same.get(1).put(v.get(i).number, u.get(i).number);
                        fates.get(0).put(u.get(i).number, 2);
                        fates.get(1).put(v.get(i).number, 2);
                    }
                    costs[4] += weight(a) + weight(b);
                    break;
                }
            }
        }
    }

    private int target(int side, int code) {
        return isRef(code) && code - 30 < drafts.get(side).size() ? code - 30 : NONE;
    }

    private Change newChange(int kind, int a, int b) {
        Change change = new Change();
        change.kind = kind;
        change.a = a;
        change.b = b;
        changes.add(change);
        return change;
    }

    private void addChanges(Item item) {
        if (item.b == null) {
            int a = item.a.number;
            boolean moved = fates.get(0).get(a) == 2;
            newChange(moved ? 2 : 0, a, moved ? same.get(0).get(a) : NONE);
        } else if (item.a == null) {
            if (fates.get(1).get(item.b.number) == 1) newChange(1, NONE, item.b.number);
        } else {
            addPairChanges(item.a, item.b);
        }
    }

    private void addPairChanges(Node a, Node b) {
        int i = 0;
        int j = 0;
        int n = a.clause.words.size();
        int m = b.clause.words.size();
        while (true) {
            int x = i;
            while (x < n && keptWords.get("0 " + a.number + " " + x) == null) x++;
            int y = j;
            while (y < m && keptWords.get("1 " + b.number + " " + y) == null) y++;
            if (x > i || y > j) {
                newChange(3, a.number, b.number).words = new int[] {i, x - i, j, y - j};
            }
            if (x == n) return;
            int u = a.clause.words.get(x);
            int v = b.clause.words.get(y);
            if (isRef(u)) {
                int p = target(0, u);
                int q = target(1, v);
                boolean bothDangle = p == NONE && q == NONE;
                boolean sameClause = p != NONE && q != NONE
                        && same.get(0).getOrDefault(p, NONE) == q;
                if (!bothDangle && !sameClause) {
                    newChange(4, a.number, b.number).words = new int[] {x, 1, y, 1};
                }
                if (sameClause && p != q) renumbered++;
            }
            i = x + 1;
            j = y + 1;
        }
    }

    // ---- asking

    private boolean isClause(int side, int c) {
        return (side == 0 || side == 1) && c >= 0 && c < drafts.get(side).size();
    }

    private boolean isWord(int side, int c, int w) {
        return isClause(side, c) && w >= 0 && w < drafts.get(side).get(c).words.size();
    }

    int draft(int side, int what) {
        if (side < 0 || side > 1 || what < 0 || what > 4) return BAD;
        int[] sums = new int[5];
        for (Clause c : drafts.get(side)) {
            sums[0]++;
            for (int code : c.words) {
                sums[1]++;
                if (isRef(code)) sums[2]++;
                if (isRef(code) && target(side, code) == NONE) sums[3]++;
            }
        }
        for (Node n : roots.get(side)) sums[4] += weight(n);
        return sums[what];
    }

    int clause(int side, int c, int what) {
        if (!isClause(side, c) || what < 0 || what > 6) return BAD;
        Node n = nodes.get(side).get(c);
        switch (what) {
            case 0: return n.clause.depth;
            case 1: return n.clause.words.size();
            case 2:
                for (Node m : nodes.get(side)) {
                    if (m.children.contains(n)) return m.number;
                }
                return NONE;
            case 3: return weight(n);
            case 4: return branch(n).size();
            case 5: return same.get(side).getOrDefault(c, NONE);
            default: return fates.get(side).get(c);
        }
    }

    int word(int side, int c, int w) {
        if (!isClause(side, c) || w < 0) return BAD;
        return isWord(side, c, w) ? drafts.get(side).get(c).words.get(w) : NONE;
    }

    int kept(int side, int c, int w) {
        return isWord(side, c, w) ? keptWords.getOrDefault(side + " " + c + " " + w, NONE) : BAD;
    }

    int leads(int side, int c, int w) {
        if (!isWord(side, c, w)) return BAD;
        int target = target(side, word(side, c, w));
        return target == NONE ? NONE : same.get(side).getOrDefault(target, NONE);
    }

    int cost(int what) {
        return what < 0 || what > 4 ? BAD : costs[what];
    }

    int between(int a, int b) {
        if (!isClause(0, a) || !isClause(1, b)) return BAD;
        return cost(nodes.get(0).get(a), nodes.get(1).get(b));
    }

    private boolean isChange(int k) {
        return k >= 0 && k < changes.size();
    }

    int change(int k, int what) {
        if (!isChange(k) || what < 0 || what > 7) return BAD;
        Change c = changes.get(k);
        switch (what) {
            case 0: return c.kind;
            case 1: return c.choice;
            case 2: return c.a;
            case 3: return c.b;
            default: return c.words[what - 4];
        }
    }

    int choose(int k, int how) {
        if (!isChange(k) || how < 0 || how > 2) return BAD;
        int before = changes.get(k).choice;
        changes.get(k).choice = how;
        return before;
    }

    int decide(int how) {
        if (how < 0 || how > 2) return BAD;
        int sum = 0;
        for (Change c : changes) {
            if (how == 0 ? c.choice != 0 : c.choice == 0) {
                c.choice = how;
                sum++;
            }
        }
        return sum;
    }

    // ---- showing

    private boolean accepted(Change c, int way) {
        return c.choice == 0 ? way == 1 : c.choice == 1;
    }

    List<ShownClause> show(int way) {
        List<ShownClause> all = new ArrayList<>();
        for (Item item : sequence) {
            if (item.a != null && item.b != null) {
                all.add(showPair(item.a, item.b, way));
                continue;
            }
            int side = item.a != null ? 0 : 1;
            Node first = item.a != null ? item.a : item.b;
            Change change = null;
            for (Change c : changes) {
                if (c.kind <= 2 && (side == 0 ? c.a : c.b) == first.number) change = c;
            }
            if (accepted(change, way) != (side == 1)) continue;
            for (Node n : branch(first)) {
                ShownClause s = new ShownClause();
                s.depth = n.clause.depth;
                int other = same.get(side).getOrDefault(n.number, NONE);
                s.a = side == 0 ? n.number : other;
                s.b = side == 1 ? n.number : other;
                for (int code : n.clause.words) s.origins.add(new int[] {side, code});
                all.add(s);
            }
        }
        for (ShownClause s : all) {
            for (int[] origin : s.origins) s.words.add(renumber(all, origin[0], origin[1]));
        }
        return all;
    }

    private int renumber(List<ShownClause> all, int side, int code) {
        if (!isRef(code)) return code;
        int target = target(side, code);
        for (int i = 0; i < all.size() && target != NONE; i++) {
            if ((side == 0 ? all.get(i).a : all.get(i).b) == target) return 30 + i;
        }
        return 27;
    }

    /** Decides for each word of both clauses by itself whether it is shown. */
    private ShownClause showPair(Node a, Node b, int way) {
        ShownClause s = new ShownClause();
        s.depth = a.clause.depth;
        s.a = a.number;
        s.b = b.number;
        int i = 0;
        int j = 0;
        while (i < a.clause.words.size() || j < b.clause.words.size()) {
            if (i < a.clause.words.size() && keptWords.get("0 " + a.number + " " + i) == null) {
                if (!accepted(changeAt(3, a, 0, i), way)) {
                    s.origins.add(new int[] {0, a.clause.words.get(i)});
                }
                i++;
            } else if (j < b.clause.words.size()
                    && keptWords.get("1 " + b.number + " " + j) == null) {
                if (accepted(changeAt(3, a, 2, j), way)) {
                    s.origins.add(new int[] {1, b.clause.words.get(j)});
                }
                j++;
            } else {
                Change turn = changeAt(4, a, 0, i);
                boolean turned = turn != null && accepted(turn, way);
                s.origins.add(turned ? new int[] {1, b.clause.words.get(j)}
                        : new int[] {0, a.clause.words.get(i)});
                i++;
                j++;
            }
        }
        return s;
    }

    /** The change of a pair that contains a word; from is 0 for an old word, 2 for a new one. */
    private Change changeAt(int kind, Node a, int from, int w) {
        for (Change c : changes) {
            boolean fits = c.kind == kind && c.a == a.number;
            if (fits && w >= c.words[from] && w < c.words[from] + c.words[from + 1]) return c;
        }
        return null;
    }

    static int shown(List<ShownClause> all, int what) {
        int[] sums = new int[4];
        for (ShownClause s : all) {
            sums[0]++;
            sums[1] += s.words.size();
            for (int code : s.words) sums[2] += code == 27 ? 1 : 0;
            sums[3] += s.depth;
        }
        return what < 0 || what > 3 ? BAD : sums[what];
    }

    static int shownClause(List<ShownClause> all, int i, int what) {
        if (i < 0 || what < 0 || what > 3) return BAD;
        if (i >= all.size()) return NONE;
        ShownClause s = all.get(i);
        return new int[] {s.depth, s.words.size(), s.a, s.b}[what];
    }

    static int shownWord(List<ShownClause> all, int i, int w) {
        if (i < 0 || w < 0) return BAD;
        return i < all.size() && w < all.get(i).words.size() ? all.get(i).words.get(w) : NONE;
    }

    int find(List<ShownClause> all, int side, int c) {
        if (!isClause(side, c)) return BAD;
        for (int i = 0; i < all.size(); i++) {
            if ((side == 0 ? all.get(i).a : all.get(i).b) == c) return i;
        }
        return NONE;
    }

    int settle() {
        for (Change c : changes) {
            if (c.choice == 0) return STATE;
        }
        List<ShownClause> all = show(0);
        if (all.size() > 8) return FULL;
        List<Clause> draft = new ArrayList<>();
        for (ShownClause s : all) {
            if (s.words.size() > 6) return FULL;
            Clause c = new Clause(s.depth);
            for (int code : s.words) c.words.add(code == 27 ? 39 : code);
            draft.add(c);
        }
        drafts.set(0, draft);
        compare();
        return draft.size();
    }

    // ---- editing

    private static boolean isCode(int code) {
        return code >= 1 && code <= 26 || code >= 30 && code <= 39;
    }

    int head(int v) {
        if (v < 0 || v > 9) return BAD;
        int before = head;
        head = v;
        compare();
        return before;
    }

    int write(int side, int c, int w, int code) {
        if (!isWord(side, c, w) || !isCode(code)) return BAD;
        int before = drafts.get(side).get(c).words.set(w, code);
        compare();
        return before;
    }

    int insert(int side, int c, int w, int code) {
        if (!isClause(side, c) || !isCode(code)) return BAD;
        List<Integer> words = drafts.get(side).get(c).words;
        if (w < 0 || w > words.size()) return BAD;
        if (words.size() == 6) return FULL;
        words.add(w, code);
        compare();
        return words.size();
    }

    int erase(int side, int c, int w) {
        if (!isWord(side, c, w)) return BAD;
        List<Integer> words = drafts.get(side).get(c).words;
        words.remove(w);
        compare();
        return words.size();
    }

    int add(int side, int depth) {
        if (side < 0 || side > 1 || depth < 0 || depth > 3) return BAD;
        List<Clause> d = drafts.get(side);
        if (depth > (d.isEmpty() ? 0 : d.get(d.size() - 1).depth + 1)) return BAD;
        if (d.size() == 8) return FULL;
        d.add(new Clause(depth));
        compare();
        return d.size() - 1;
    }

    int strike(int side, int c) {
        if (!isClause(side, c)) return BAD;
        List<Clause> gone = new ArrayList<>();
        for (Node n : branch(nodes.get(side).get(c))) gone.add(n.clause);
        drafts.get(side).removeAll(gone);
        compare();
        return drafts.get(side).size();
    }

    /** Makes the draft anew from the two branches, and looks up where each clause is then. */
    int swap(int side, int c) {
        if (!isClause(side, c)) return BAD;
        List<Node> row = roots.get(side);
        for (Node n : nodes.get(side)) {
            if (n.children.contains(nodes.get(side).get(c))) row = n.children;
        }
        int place = row.indexOf(nodes.get(side).get(c));
        if (place + 1 == row.size()) return NONE;
        List<Clause> before = new ArrayList<>(drafts.get(side));
        Node first = row.get(place);
        row.set(place, row.get(place + 1));
        row.set(place + 1, first);
        List<Clause> d = new ArrayList<>();
        for (Node root : roots.get(side)) {
            for (Node n : branch(root)) d.add(n.clause);
        }
        for (Clause clause : d) {
            for (int w = 0; w < clause.words.size(); w++) {
                int target = target(side, clause.words.get(w));
                if (target != NONE) clause.words.set(w, 30 + d.indexOf(before.get(target)));
            }
        }
        drafts.set(side, d);
        int number = d.indexOf(first.clause);
        compare();
        return number;
    }

    int exchange() {
        drafts = new ArrayList<>(List.of(drafts.get(1), drafts.get(0)));
        compare();
        return costs[0];
    }

    // ---- images and sheets

    private static List<List<Clause>> copies(List<List<Clause>> of) {
        List<List<Clause>> all = new ArrayList<>();
        for (List<Clause> draft : of) {
            List<Clause> copy = new ArrayList<>();
            for (Clause c : draft) copy.add(c.copy());
            all.add(copy);
        }
        return all;
    }

    int keep(int k) {
        if (k < 0 || k > 1) return BAD;
        int was = images[k] == null ? 0 : 1;
        Image image = new Image();
        image.drafts = copies(drafts);
        image.head = head;
        for (Change c : changes) image.choices.add(c.choice);
        images[k] = image;
        return was;
    }

    int back(int k) {
        if (k < 0 || k > 1) return BAD;
        if (images[k] == null) return STATE;
        drafts = copies(images[k].drafts);
        head = images[k].head;
        compare();
        for (int i = 0; i < changes.size(); i++) changes.get(i).choice = images[k].choices.get(i);
        return changes.size();
    }

    int sheet(int k, int lane, int n) {
        if (k < 0 || k > 3 || lane < 0 || lane > 1 || n > 20) return BAD;
        if (n < 0) return -14;
        sheets[k] = lane == 0 ? (Object) new char[n] : (Object) new int[n];
        return 1;
    }

    private static int size(Object sheet) {
        return sheet instanceof char[] ? ((char[]) sheet).length : ((int[]) sheet).length;
    }

    int lay(int k, int i, int v) {
        if (k < 0 || k > 3) return BAD;
        if (sheets[k] == null) return -11;
        if (i < 0 || i >= size(sheets[k])) return -13;
        if (sheets[k] instanceof char[]) {
            ((char[]) sheets[k])[i] = (char) v;
        } else {
            ((int[]) sheets[k])[i] = v;
        }
        return 1;
    }

    int paste(int k, int lane, int f, int c, int n) {
        if (k < 0 || k > 3 || lane < 0 || lane > 1 || !isClause(1, c)) return BAD;
        if (sheets[k] == null) return -11;
        if (sheets[k] instanceof char[] != (lane == 0)) return -12;
        if (f < 0 || n < 0 || (long) f + n > size(sheets[k]) || n > 6) return -13;
        List<Integer> words = new ArrayList<>();
        for (int i = 0; i < n; i++) {
            int v = lane == 0 ? ((char[]) sheets[k])[f + i] : ((int[]) sheets[k])[f + i];
            if (!isCode(v)) return -20 - i;
            words.add(v);
        }
        drafts.get(1).get(c).words = words;
        compare();
        return n;
    }

    int count(int what) {
        if (what < 0 || what > 13) return BAD;
        int[] sums = new int[14];
        sums[0] = changes.size();
        for (Change c : changes) {
            sums[1 + c.choice]++;
            sums[5 + c.kind]++;
        }
        for (Item item : sequence) sums[4] += item.a != null && item.b != null ? 1 : 0;
        sums[10] = renumbered;
        sums[11] = tape.length();
        sums[12] = (int) Arrays.stream(images).filter(image -> image != null).count();
        sums[13] = sheets[0] == null ? NONE : size(sheets[0]);
        return sums[what];
    }
}
