/**
 * Compares two drafts of a contract. DOC.md says, as numbered promises, what each public method
 * answers; here stands only why it is done in this way.
 *
 * <p>All rows are made with the object and used again: no later call makes an object.
 */
public final class ClauseDrafts {
    public static final int BAD = -1, STATE = -2, FULL = -3, NONE = -4;

    private static final int OLD = 0, NEW = 1, SIDES = 2;
    private static final int MAX_CLAUSES = 8, MAX_WORDS = 6, MAX_DEPTH = 3, MAX_BYTES = 160;

    /** Stands where a row has no further clause; it is an index that the tables of costs have. */
    private static final int END = MAX_CLAUSES;

    private static final int LAST_LETTER = 26, LOST = 27, REFERENCE = 30, LAST_REFERENCE = 39;

    /** The kinds of a step of the sequence. */
    private static final int PAIR = 0, REMOVED = 1, ADDED = 2;

    /** What becomes of a clause, as clause() tells it. */
    private static final int PAIRED = 0, ALONE = 1, MOVED = 2;

    private static final int OPEN = 0, ACCEPTED = 1, REFUSED = 2;

    private static final int MAX_STEPS = 2 * MAX_CLAUSES;

    /** A pair has at most 7 stretches and 6 turns, and each clause begins at most one branch. */
    private static final int MAX_CHANGES = MAX_CLAUSES * (2 * MAX_WORDS + 1) + MAX_STEPS;

    private static final int MISSING = -11, OTHER_LANE = -12, NO_INDEX = -13, NEGATIVE = -14;
    private static final int FIRST_WRONG_ELEMENT = -20, FIRST_FAULT_PLACE = -10;

    private final Tape tape = new Tape();
    private final Drafts drafts = new Drafts();
    private final Draft spare = new Draft();
    private final Costs costs = new Costs();
    private final Pairing pairing = new Pairing();
    private final Changes changes = new Changes();
    private final View refusing = new View(false);
    private final View accepting = new View(true);
    private final Image firstImage = new Image();
    private final Image secondImage = new Image();
    private final Sheets sheets = new Sheets();

    /** Drafts without clauses need no comparing: it would find the zeros that are there. */
    public ClauseDrafts() {
    }

    // ---- the text

    public int feed(int c) {
        if (!within(c, 0, 127)) {
            return BAD;
        }
        if (tape.length() >= MAX_BYTES) {
            return FULL;
        }
        tape.append(c);
        return tape.length();
    }

    public int end(int n) {
        int before = tape.length();
        if (!within(n, 0, before)) {
            return BAD;
        }
        tape.cutTo(n);
        return before;
    }

    public int text() {
        tape.readAll();
        if (tape.faultKind() != 0) {
            return FIRST_FAULT_PLACE - tape.faultPlace();
        }
        drafts.copyTexts(tape.result());
        firstImage.makeEmpty();
        secondImage.makeEmpty();
        compareAgain();
        return drafts.of(OLD).size() + drafts.of(NEW).size();
    }

    public int fault() {
        return tape.faultKind();
    }

    // ---- drafts

    public int draft(int side, int what) {
        if (!isSide(side)) {
            return BAD;
        }
        Draft d = drafts.of(side);
        switch (what) {
            case 0: return d.size();
            case 1: return d.wordsFrom(0, d.size());
            case 2: return d.references();
            case 3: return d.danglingReferences();
            case 4: return drafts.weightOf(side, 0, d.size());
            default: return BAD;
        }
    }

    public int clause(int side, int c, int what) {
        if (!isClause(side, c)) {
            return BAD;
        }
        Draft d = drafts.of(side);
        switch (what) {
            case 0: return d.depthOf(c);
            case 1: return d.lengthOf(c);
            case 2: return d.parentOf(c);
            case 3: return costs.weightOf(side, c);
            case 4: return d.branchSize(c);
            case 5: return pairing.sameAs(side, c);
            case 6: return pairing.fateOf(side, c);
            default: return BAD;
        }
    }

    public int word(int side, int c, int w) {
        if (!isClause(side, c) || w < 0) {
            return BAD;
        }
        return isWord(side, c, w) ? drafts.of(side).codeOf(c, w) : NONE;
    }

    public int kept(int side, int c, int w) {
        return isWord(side, c, w) ? pairing.keptWith(side, c, w) : BAD;
    }

    public int leads(int side, int c, int w) {
        if (!isWord(side, c, w)) {
            return BAD;
        }
        int target = drafts.of(side).targetOf(c, w);
        return target == NONE ? NONE : pairing.sameAs(side, target);
    }

    public int cost(int what) {
        switch (what) {
            case 0: return rootCost();
            case 1: return pairing.wordCosts();
            case 2: return pairing.removedWeight();
            case 3: return pairing.addedWeight();
            case 4: return pairing.movedWeight();
            default: return BAD;
        }
    }

    public int between(int a, int b) {
        return isClause(OLD, a) && isClause(NEW, b) ? costs.ofPair(a, b) : BAD;
    }

    // ---- changes

    public int change(int k, int what) {
        return isChange(k) && within(what, 0, 7) ? changes.property(k, what) : BAD;
    }

    public int choose(int k, int how) {
        if (!isChange(k) || !within(how, OPEN, REFUSED)) {
            return BAD;
        }
        int before = changes.choiceOf(k);
        changes.setChoice(k, how);
        showAgain();
        return before;
    }

    public int decide(int how) {
        if (!within(how, OPEN, REFUSED)) {
            return BAD;
        }
        int changed = how == OPEN ? changes.reopen() : changes.closeOpen(how);
        showAgain();
        return changed;
    }

    public int shown(int way, int what) {
        if (!isSide(way)) {
            return BAD;
        }
        View view = viewOf(way);
        switch (what) {
            case 0: return view.size();
            case 1: return view.wordCount();
            case 2: return view.lostCount();
            case 3: return view.depthSum();
            default: return BAD;
        }
    }

    public int shownClause(int way, int i, int what) {
        if (!isSide(way) || i < 0 || !within(what, 0, 3)) {
            return BAD;
        }
        View view = viewOf(way);
        if (i >= view.size()) {
            return NONE;
        }
        switch (what) {
            case 0: return view.depthOf(i);
            case 1: return view.lengthOf(i);
            case 2: return view.originOf(i, OLD);
            default: return view.originOf(i, NEW);
        }
    }

    public int shownWord(int way, int i, int w) {
        if (!isSide(way) || i < 0 || w < 0) {
            return BAD;
        }
        View view = viewOf(way);
        return i < view.size() && w < view.lengthOf(i) ? view.codeOf(i, w) : NONE;
    }

    public int find(int way, int side, int c) {
        return isSide(way) && isClause(side, c) ? viewOf(way).placeOf(side, c) : BAD;
    }

    public int settle() {
        if (changes.countOf(Changes.CHOICE, OPEN) > 0) {
            return STATE;
        }
        if (accepting.size() > MAX_CLAUSES || accepting.longest() > MAX_WORDS) {
            return FULL;
        }
        accepting.copyInto(drafts.of(OLD));
        compareAgain();
        return drafts.of(OLD).size();
    }

    // ---- editing

    public int head(int v) {
        if (!within(v, 0, 9)) {
            return BAD;
        }
        int before = drafts.headWeight();
        drafts.setHeadWeight(v);
        compareAgain();
        return before;
    }

    public int write(int side, int c, int w, int code) {
        if (!isWord(side, c, w) || !isCode(code)) {
            return BAD;
        }
        Draft d = drafts.of(side);
        int before = d.codeOf(c, w);
        d.setCode(c, w, code);
        compareAgain();
        return before;
    }

    public int insert(int side, int c, int w, int code) {
        if (!isClause(side, c) || !isCode(code)) {
            return BAD;
        }
        Draft d = drafts.of(side);
        if (!within(w, 0, d.lengthOf(c))) {
            return BAD;
        }
        if (d.lengthOf(c) >= MAX_WORDS) {
            return FULL;
        }
        d.insertWord(c, w, code);
        compareAgain();
        return d.lengthOf(c);
    }

    public int erase(int side, int c, int w) {
        if (!isWord(side, c, w)) {
            return BAD;
        }
        Draft d = drafts.of(side);
        d.removeWord(c, w);
        compareAgain();
        return d.lengthOf(c);
    }

    public int add(int side, int depth) {
        if (!isSide(side) || !drafts.of(side).allowsDepth(depth)) {
            return BAD;
        }
        Draft d = drafts.of(side);
        if (d.size() >= MAX_CLAUSES) {
            return FULL;
        }
        d.appendClause(depth);
        compareAgain();
        return d.size() - 1;
    }

    public int strike(int side, int c) {
        if (!isClause(side, c)) {
            return BAD;
        }
        Draft d = drafts.of(side);
        d.removeBranch(c);
        compareAgain();
        return d.size();
    }

    public int swap(int side, int c) {
        if (!isClause(side, c)) {
            return BAD;
        }
        Draft d = drafts.of(side);
        int next = d.nextInRow(c);
        if (next == END) {
            return NONE;
        }
        int number = c + d.branchSize(next);
        d.exchangeBranches(c, next, spare);
        compareAgain();
        return number;
    }

    public int exchange() {
        drafts.turnAround();
        compareAgain();
        return rootCost();
    }

    // ---- images, sheets

    public int keep(int k) {
        if (!within(k, 0, 1)) {
            return BAD;
        }
        Image image = imageOf(k);
        int before = image.isFilled() ? 1 : 0;
        image.take(drafts, changes);
        return before;
    }

    public int back(int k) {
        if (!within(k, 0, 1)) {
            return BAD;
        }
        Image image = imageOf(k);
        if (!image.isFilled()) {
            return STATE;
        }
        image.restoreDrafts(drafts);
        compareAgain();
        image.restoreChoices(changes);
        showAgain();
        return changes.size();
    }

    public int sheet(int k, int lane, int n) {
        if (!Sheets.isNumber(k) || !Sheets.isLane(lane) || n > Sheets.MAX_ELEMENTS) {
            return BAD;
        }
        if (n < 0) {
            return NEGATIVE;
        }
        sheets.create(k, lane, n);
        return 1;
    }

    public int lay(int k, int i, int v) {
        if (!Sheets.isNumber(k)) {
            return BAD;
        }
        if (sheets.isMissing(k)) {
            return MISSING;
        }
        if (i < 0 || i >= sheets.sizeOf(k)) {
            return NO_INDEX;
        }
        sheets.setElement(k, i, v);
        return 1;
    }

    public int paste(int k, int lane, int f, int c, int n) {
        if (!Sheets.isNumber(k) || !Sheets.isLane(lane) || !isClause(NEW, c)) {
            return BAD;
        }
        int finding = findingOfPaste(k, lane, f, n);
        if (finding != 0) {
            return finding;
        }
        Draft d = drafts.of(NEW);
        d.removeWords(c);
        for (int i = 0; i < n; i++) {
            d.insertWord(c, i, sheets.elementOf(k, f + i));
        }
        compareAgain();
        return n;
    }

    public int count(int what) {
        switch (what) {
            case 0: return changes.size();
            case 1: return changes.countOf(Changes.CHOICE, OPEN);
            case 2: return changes.countOf(Changes.CHOICE, ACCEPTED);
            case 3: return changes.countOf(Changes.CHOICE, REFUSED);
            case 4: return pairing.pairs();
            case 5: return changes.countOf(Changes.KIND, Changes.REMOVAL);
            case 6: return changes.countOf(Changes.KIND, Changes.ADDITION);
            case 7: return changes.countOf(Changes.KIND, Changes.MOVE);
            case 8: return changes.countOf(Changes.KIND, Changes.STRETCH);
            case 9: return changes.countOf(Changes.KIND, Changes.TURN);
            case 10: return changes.renumbered();
            case 11: return tape.length();
            case 12: return (firstImage.isFilled() ? 1 : 0) + (secondImage.isFilled() ? 1 : 0);
            case 13: return sheets.isMissing(0) ? NONE : sheets.sizeOf(0);
            default: return BAD;
        }
    }

    // ---- what the public methods share

    private static boolean within(int v, int low, int high) {
        return v >= low && v <= high;
    }

    private static boolean isSide(int side) {
        return side == OLD || side == NEW;
    }

    private static boolean isReference(int code) {
        return code >= REFERENCE && code <= LAST_REFERENCE;
    }

    private static boolean isCode(int code) {
        return within(code, 1, LAST_LETTER) || isReference(code);
    }

    /** For words of drafts, among which the references are the highest codes. */
    private static boolean areAlike(int one, int other) {
        return one == other || one >= REFERENCE && other >= REFERENCE;
    }

    private boolean isClause(int side, int c) {
        return isSide(side) && drafts.of(side).has(c);
    }

    private boolean isWord(int side, int c, int w) {
        return isSide(side) && drafts.of(side).hasWord(c, w);
    }

    private boolean isChange(int k) {
        return k >= 0 && k < changes.size();
    }

    private View viewOf(int way) {
        return way == 0 ? refusing : accepting;
    }

    private Image imageOf(int k) {
        return k == 0 ? firstImage : secondImage;
    }

    private int rootCost() {
        return costs.ofRows(drafts.of(OLD).firstRoot(), drafts.of(NEW).firstRoot());
    }

    private void compareAgain() {
        costs.measure(drafts);
        pairing.pairUp(drafts, costs);
        changes.collect(drafts, pairing);
        refusing.build(drafts, pairing, changes);
        accepting.build(drafts, pairing, changes);
    }

    /** For calls that only change choices. */
    private void showAgain() {
        refusing.build(drafts, pairing, changes);
        accepting.build(drafts, pairing, changes);
    }

    /** Returns 0 if the elements can be pasted. */
    private int findingOfPaste(int k, int lane, int f, int n) {
        if (sheets.isMissing(k)) {
            return MISSING;
        }
        if (sheets.laneOf(k) != lane) {
            return OTHER_LANE;
        }
        if (f < 0 || !within(n, 0, MAX_WORDS) || f > sheets.sizeOf(k) - n) {
            return NO_INDEX;
        }
        for (int i = 0; i < n; i++) {
            if (!isCode(sheets.elementOf(k, f + i))) {
                return FIRST_WRONG_ELEMENT - i;
            }
        }
        return 0;
    }

    /** A row of ints that looks at every index itself: beyond its ends there are zeros. */
    private static final class Line {
        private static final int MAX_LENGTH = 256;

        private final int[] cells;

        Line(int length) {
            cells = new int[length > 0 && length <= MAX_LENGTH ? length : 0];
        }

        int get(int i) {
            return i >= 0 && i < cells.length ? cells[i] : 0;
        }

        void set(int i, int value) {
            if (i >= 0 && i < cells.length) {
                cells[i] = value;
            }
        }

        void copy(Line other) {
            for (int i = 0; i < cells.length; i++) {
                cells[i] = other.get(i);
            }
        }
    }

    /** A line with two indices, each looked at by itself, so that none runs into the next row. */
    private static final class Table {
        private static final int MAX_SIDE = 256;

        private final int rows;
        private final int columns;
        private final int[] cells;

        Table(int rows, int columns) {
            boolean fits = within(rows, 1, MAX_SIDE) && within(columns, 1, MAX_SIDE);
            this.rows = fits ? rows : 0;
            this.columns = fits ? columns : 0;
            this.cells = new int[fits ? rows * columns : 0];
        }

        int get(int row, int column) {
            boolean inside = row >= 0 && row < rows && column >= 0 && column < columns;
            return inside ? cells[row * columns + column] : 0;
        }

        void set(int row, int column, int value) {
            if (row >= 0 && row < rows && column >= 0 && column < columns) {
                cells[row * columns + column] = value;
            }
        }

        void fill(int value) {
            for (int i = 0; i < cells.length; i++) {
                cells[i] = value;
            }
        }

        void copy(Table other) {
            for (int row = 0; row < rows; row++) {
                for (int column = 0; column < columns; column++) {
                    set(row, column, other.get(row, column));
                }
            }
        }
    }

    /** The clauses of one draft, with their words. */
    private static final class Draft {
        private final Line depths = new Line(MAX_CLAUSES);
        private final Line lengths = new Line(MAX_CLAUSES);
        private final Table codes = new Table(MAX_CLAUSES, MAX_WORDS);
        private int size;

        int size() {
            return size;
        }

        boolean has(int c) {
            return c >= 0 && c < size;
        }

        boolean hasWord(int c, int w) {
            return has(c) && w >= 0 && w < lengths.get(c);
        }

        int depthOf(int c) {
            return depths.get(c);
        }

        int lengthOf(int c) {
            return lengths.get(c);
        }

        int codeOf(int c, int w) {
            return codes.get(c, w);
        }

        void setCode(int c, int w, int code) {
            codes.set(c, w, code);
        }

        void copyAll(Draft other) {
            size = other.size;
            depths.copy(other.depths);
            lengths.copy(other.lengths);
            codes.copy(other.codes);
        }

        void removeAll() {
            size = 0;
        }

        /** Tells whether a clause of this depth may be the next one. */
        boolean allowsDepth(int depth) {
            int deepest = size == 0 ? 0 : Math.min(MAX_DEPTH, depths.get(size - 1) + 1);
            return within(depth, 0, deepest);
        }

        void appendClause(int depth) {
            if (size < MAX_CLAUSES) {
                depths.set(size, depth);
                lengths.set(size, 0);
                size++;
            }
        }

        void insertWord(int c, int w, int code) {
            int length = lengths.get(c);
            if (!has(c) || length >= MAX_WORDS || !within(w, 0, length)) {
                return;
            }
            for (int i = length; i > w; i--) {
                codes.set(c, i, codes.get(c, i - 1));
            }
            codes.set(c, w, code);
            lengths.set(c, length + 1);
        }

        void appendWord(int c, int code) {
            insertWord(c, lengths.get(c), code);
        }

        void removeWord(int c, int w) {
            if (!hasWord(c, w)) {
                return;
            }
            int left = lengths.get(c) - 1;
            for (int i = w; i < left; i++) {
                codes.set(c, i, codes.get(c, i + 1));
            }
            lengths.set(c, left);
        }

        void removeWords(int c) {
            lengths.set(c, 0);
        }

        int branchSize(int c) {
            int end = c + 1;
            while (end < size && depths.get(end) > depths.get(c)) {
                end++;
            }
            return end - c;
        }

        int parentOf(int c) {
            for (int i = c - 1; i >= 0; i--) {
                if (depths.get(i) == depths.get(c) - 1) {
                    return i;
                }
            }
            return NONE;
        }

        int firstRoot() {
            return size > 0 ? 0 : END;
        }

        int nextInRow(int c) {
            return atDepth(c + branchSize(c), depths.get(c));
        }

        int firstChild(int c) {
            return atDepth(c + 1, depths.get(c) + 1);
        }

        /** Returns c if there is this clause and it has this depth, otherwise END. */
        int atDepth(int c, int depth) {
            return has(c) && depths.get(c) == depth ? c : END;
        }

        int wordsFrom(int first, int clauses) {
            int sum = 0;
            for (int c = first; c < first + clauses && c < size; c++) {
                sum += lengths.get(c);
            }
            return sum;
        }

        /** Returns the clause to which a word leads; NONE if it is a letter or dangles. */
        int targetOf(int c, int w) {
            int code = codes.get(c, w);
            return isReference(code) && has(code - REFERENCE) ? code - REFERENCE : NONE;
        }

        int references() {
            int sum = 0;
            for (int c = 0; c < size; c++) {
                for (int w = 0; w < lengths.get(c); w++) {
                    sum += isReference(codes.get(c, w)) ? 1 : 0;
                }
            }
            return sum;
        }

        int danglingReferences() {
            int sum = references();
            for (int c = 0; c < size; c++) {
                for (int w = 0; w < lengths.get(c); w++) {
                    sum -= targetOf(c, w) == NONE ? 0 : 1;
                }
            }
            return sum;
        }

        void removeBranch(int c) {
            if (!has(c)) {
                return;
            }
            int gone = branchSize(c);
            for (int i = c; i + gone < size; i++) {
                copyClause(this, i + gone, i);
            }
            size -= gone;
        }

        /** The second branch must stand right behind the first one. */
        void exchangeBranches(int first, int second, Draft scratch) {
            int ahead = branchSize(second);
            int behind = second - first;
            scratch.copyAll(this);
            for (int c = first; c < second + ahead; c++) {
                copyClause(scratch, c, c < second ? c + ahead : c - behind);
            }
            for (int c = 0; c < size; c++) {
                for (int w = 0; w < lengths.get(c); w++) {
                    int target = targetOf(c, w);
                    if (target >= first && target < second) {
                        codes.set(c, w, REFERENCE + target + ahead);
                    } else if (target >= second && target < second + ahead) {
                        codes.set(c, w, REFERENCE + target - behind);
                    }
                }
            }
        }

        private void copyClause(Draft from, int source, int place) {
            depths.set(place, from.depths.get(source));
            lengths.set(place, from.lengths.get(source));
            for (int w = 0; w < MAX_WORDS; w++) {
                codes.set(place, w, from.codes.get(source, w));
            }
        }
    }

    /** Both drafts, and the head, on which their weights depend. */
    private static final class Drafts {
        private static final int FIRST_HEAD = 2;

        private Draft before = new Draft();
        private Draft after = new Draft();
        private int headWeight = FIRST_HEAD;

        Draft of(int side) {
            return side == OLD ? before : after;
        }

        int headWeight() {
            return headWeight;
        }

        void setHeadWeight(int weight) {
            headWeight = weight;
        }

        void copyTexts(Drafts other) {
            before.copyAll(other.before);
            after.copyAll(other.after);
        }

        void removeTexts() {
            before.removeAll();
            after.removeAll();
        }

        void turnAround() {
            Draft other = before;
            before = after;
            after = other;
        }

        int weightOf(int side, int first, int clauses) {
            return headWeight * clauses + of(side).wordsFrom(first, clauses);
        }
    }

    /** The bytes that were fed, and how they are read as two drafts. */
    private static final class Tape {
        /** What the reading waits for. */
        private static final int OPENING = 0, CLAUSE = 1, WORD = 2, NUMBER = 3;

        private final Line bytes = new Line(MAX_BYTES);
        private final Drafts result = new Drafts();
        private int length;
        private int awaited;
        private int side;
        private int faultKind;
        private int faultPlace;

        int length() {
            return length;
        }

        int faultKind() {
            return faultKind;
        }

        int faultPlace() {
            return faultPlace;
        }

        Drafts result() {
            return result;
        }

        void append(int c) {
            if (length < MAX_BYTES) {
                bytes.set(length, c);
                length++;
            }
        }

        void cutTo(int n) {
            length = n;
        }

        void readAll() {
            result.removeTexts();
            awaited = OPENING;
            side = OLD;
            faultKind = 0;
            for (int i = 0; i < length && faultKind == 0; i++) {
                faultPlace = i;
                if (bytes.get(i) != ' ') {
                    readSign(bytes.get(i));
                }
            }
            if (faultKind == 0 && !(side == NEW && awaited == CLAUSE)) {
                faultKind = 2;
                faultPlace = length;
            }
            length = 0;
        }

        private void readSign(int c) {
            faultKind = faultOf(c);
            if (faultKind == 0) {
                takeSign(c);
            }
        }

        private int faultOf(int c) {
            Draft d = result.of(side);
            if (!isLetter(c) && !isDigit(c) && c != '<' && c != '>' && c != '#' && c != ';') {
                return 1;
            }
            if (!mayStand(c)) {
                return 2;
            }
            if (awaited == CLAUSE && isDigit(c)) {
                if (d.size() >= MAX_CLAUSES) {
                    return 3;
                }
                return d.allowsDepth(c - '0') ? 0 : 4;
            }
            boolean isFull = d.lengthOf(d.size() - 1) >= MAX_WORDS;
            return awaited == WORD && c != ';' && isFull ? 5 : 0;
        }

        private boolean mayStand(int c) {
            switch (awaited) {
                case OPENING: return c == '<';
                case CLAUSE: return isDigit(c) || c == '>' && side == OLD;
                case WORD: return isLetter(c) || c == '#' || c == ';';
                default: return isDigit(c);
            }
        }

        private void takeSign(int c) {
            Draft d = result.of(side);
            if (c == '<' || c == ';') {
                awaited = CLAUSE;
            } else if (c == '>') {
                side = NEW;
            } else if (c == '#') {
                awaited = NUMBER;
            } else if (isLetter(c)) {
                d.appendWord(d.size() - 1, c - 'a' + 1);
            } else if (awaited == NUMBER) {
                d.appendWord(d.size() - 1, REFERENCE + c - '0');
                awaited = WORD;
            } else {
                d.appendClause(c - '0');
                awaited = WORD;
            }
        }

        private static boolean isLetter(int c) {
            return within(c, 'a', 'z');
        }

        private static boolean isDigit(int c) {
            return within(c, '0', '9');
        }
    }

    /**
     * The costs of all clauses and rows. A row is named by the clause with which its rest begins;
     * everything that the cost of a rest is made of has higher numbers, so one pass from the end
     * finds them all, and the pairing can ask afterwards which way reaches the smallest sum.
     */
    private static final class Costs {
        private final Table words = new Table(MAX_WORDS + 1, MAX_WORDS + 1);
        private final Table pairs = new Table(MAX_CLAUSES, MAX_CLAUSES);
        private final Table rows = new Table(MAX_CLAUSES + 1, MAX_CLAUSES + 1);
        private final Table weights = new Table(SIDES, MAX_CLAUSES);
        private final Table nexts = new Table(SIDES, MAX_CLAUSES);

        int weightOf(int side, int c) {
            return weights.get(side, c);
        }

        int ofPair(int a, int b) {
            return pairs.get(a, b);
        }

        int ofRows(int a, int b) {
            return rows.get(a, b);
        }

        /** Of the clauses for which alignWords() was called last, from these words on. */
        int ofWords(int i, int j) {
            return words.get(i, j);
        }

        int byPair(int a, int b) {
            return pairs.get(a, b) + rows.get(nexts.get(OLD, a), nexts.get(NEW, b));
        }

        int byRemoval(int a, int b) {
            return weights.get(OLD, a) + rows.get(nexts.get(OLD, a), b);
        }

        int byAddition(int a, int b) {
            return weights.get(NEW, b) + rows.get(a, nexts.get(NEW, b));
        }

        void measure(Drafts drafts) {
            Draft before = drafts.of(OLD);
            Draft after = drafts.of(NEW);
            noteClauses(drafts, OLD);
            noteClauses(drafts, NEW);
            rows.set(END, END, 0);
            for (int b = after.size() - 1; b >= 0; b--) {
                rows.set(END, b, byAddition(END, b));
            }
            for (int a = before.size() - 1; a >= 0; a--) {
                rows.set(a, END, byRemoval(a, END));
                for (int b = after.size() - 1; b >= 0; b--) {
                    alignWords(before, a, after, b);
                    int children = rows.get(before.firstChild(a), after.firstChild(b));
                    pairs.set(a, b, words.get(0, 0) + children);
                    int alone = Math.min(byRemoval(a, b), byAddition(a, b));
                    rows.set(a, b, Math.min(byPair(a, b), alone));
                }
            }
        }

        private void noteClauses(Drafts drafts, int side) {
            Draft d = drafts.of(side);
            for (int c = 0; c < d.size(); c++) {
                weights.set(side, c, drafts.weightOf(side, c, d.branchSize(c)));
                nexts.set(side, c, d.nextInRow(c));
            }
        }

        /** Finds how many words have to be left out, from any two words on. */
        void alignWords(Draft before, int a, Draft after, int b) {
            int goes = before.lengthOf(a);
            int comes = after.lengthOf(b);
            for (int i = goes; i >= 0; i--) {
                for (int j = comes; j >= 0; j--) {
                    int least = goes - i + comes - j;
                    if (i < goes && j < comes) {
                        least = 1 + Math.min(words.get(i + 1, j), words.get(i, j + 1));
                        if (areAlike(before.codeOf(a, i), after.codeOf(b, j))) {
                            least = Math.min(least, words.get(i + 1, j + 1));
                        }
                    }
                    words.set(i, j, least);
                }
            }
        }
    }

    /** Which clauses and words of the two drafts belong together, and in which sequence. */
    private static final class Pairing {
        /** The columns of a step. */
        private static final int KIND = 0, OLD_CLAUSE = 1, NEW_CLAUSE = 2, COLUMNS = 3;

        /** Every turn of the walk takes a clause, or leaves the children of a pair. */
        private static final int MAX_TURNS = 2 * MAX_STEPS;

        private final Table steps = new Table(MAX_STEPS, COLUMNS);
        private final Table same = new Table(SIDES, MAX_CLAUSES);
        private final Table fates = new Table(SIDES, MAX_CLAUSES);
        private final Table oldKept = new Table(MAX_CLAUSES, MAX_WORDS);
        private final Table newKept = new Table(MAX_CLAUSES, MAX_WORDS);
        private int size;
        private int pairs;
        private int wordCosts;
        private int removedWeight;
        private int addedWeight;
        private int movedWeight;

        int size() {
            return size;
        }

        int kindOf(int step) {
            return steps.get(step, KIND);
        }

        /** Returns the clause of a step, of a branch the first one; NONE if it has none there. */
        int clauseOf(int step, int side) {
            return steps.get(step, side == OLD ? OLD_CLAUSE : NEW_CLAUSE);
        }

        int sameAs(int side, int c) {
            return same.get(side, c);
        }

        int fateOf(int side, int c) {
            return fates.get(side, c);
        }

        int keptWith(int side, int c, int w) {
            return side == OLD ? oldKept.get(c, w) : newKept.get(c, w);
        }

        int pairs() {
            return pairs;
        }

        int wordCosts() {
            return wordCosts;
        }

        int removedWeight() {
            return removedWeight;
        }

        int addedWeight() {
            return addedWeight;
        }

        int movedWeight() {
            return movedWeight;
        }

        void pairUp(Drafts drafts, Costs costs) {
            forgetAll();
            walkRows(drafts, costs);
            for (int step = 0; step < size; step++) {
                noteStep(drafts, costs, step);
            }
            for (int step = 0; step < size; step++) {
                if (kindOf(step) == REMOVED) {
                    lookForMove(drafts, costs, clauseOf(step, OLD));
                }
            }
        }

        private void forgetAll() {
            size = 0;
            pairs = 0;
            wordCosts = 0;
            removedWeight = 0;
            addedWeight = 0;
            movedWeight = 0;
            same.fill(NONE);
            fates.fill(ALONE);
            oldKept.fill(NONE);
            newKept.fill(NONE);
        }

        /**
         * Goes through both drafts from their beginnings. A clause whose depth is smaller than the
         * depth of the present rows does not belong to them; if there is none left that does, the
         * walk goes on in the rows of the parents.
         */
        private void walkRows(Drafts drafts, Costs costs) {
            Draft before = drafts.of(OLD);
            Draft after = drafts.of(NEW);
            int i = 0;
            int j = 0;
            int depth = 0;
            for (int turn = 0; turn < MAX_TURNS && (before.has(i) || after.has(j)); turn++) {
                int a = before.atDepth(i, depth);
                int b = after.atDepth(j, depth);
                if (a == END && b == END) {
                    depth--;
                } else if (isPair(costs, a, b)) {
                    appendStep(PAIR, a, b);
                    i++;
                    j++;
                    depth++;
                } else if (a != END && costs.ofRows(a, b) == costs.byRemoval(a, b)) {
                    appendStep(REMOVED, a, NONE);
                    i += before.branchSize(a);
                } else {
                    appendStep(ADDED, NONE, b);
                    j += after.branchSize(b);
                }
            }
        }

        private static boolean isPair(Costs costs, int a, int b) {
            return a != END && b != END && costs.ofRows(a, b) == costs.byPair(a, b);
        }

        private void appendStep(int kind, int a, int b) {
            if (size < MAX_STEPS) {
                steps.set(size, KIND, kind);
                steps.set(size, OLD_CLAUSE, a);
                steps.set(size, NEW_CLAUSE, b);
                size++;
            }
        }

        private void noteStep(Drafts drafts, Costs costs, int step) {
            int a = clauseOf(step, OLD);
            int b = clauseOf(step, NEW);
            if (kindOf(step) == REMOVED) {
                removedWeight += costs.weightOf(OLD, a);
            } else if (kindOf(step) == ADDED) {
                addedWeight += costs.weightOf(NEW, b);
            } else {
                pairs++;
                same.set(OLD, a, b);
                same.set(NEW, b, a);
                fates.set(OLD, a, PAIRED);
                fates.set(NEW, b, PAIRED);
                keepWords(drafts, costs, a, b);
            }
        }

        private void keepWords(Drafts drafts, Costs costs, int a, int b) {
            Draft before = drafts.of(OLD);
            Draft after = drafts.of(NEW);
            costs.alignWords(before, a, after, b);
            wordCosts += costs.ofWords(0, 0);
            int i = 0;
            int j = 0;
            for (int turn = 0; turn < 2 * MAX_WORDS; turn++) {
                boolean hasOld = before.hasWord(a, i);
                boolean hasNew = after.hasWord(b, j);
                boolean alike = areAlike(before.codeOf(a, i), after.codeOf(b, j));
                boolean reaches = costs.ofWords(i, j) == costs.ofWords(i + 1, j + 1);
                if (hasOld && hasNew && alike && reaches) {
                    oldKept.set(a, i, j);
                    newKept.set(b, j, i);
                    i++;
                    j++;
                } else if (hasOld && costs.ofWords(i, j) == 1 + costs.ofWords(i + 1, j)) {
                    i++;
                } else if (hasNew) {
                    j++;
                } else {
                    break;
                }
            }
        }

        private void lookForMove(Drafts drafts, Costs costs, int a) {
            for (int step = 0; step < size; step++) {
                int b = clauseOf(step, NEW);
                if (kindOf(step) == ADDED && fates.get(NEW, b) == ALONE && areLike(drafts, a, b)) {
                    noteMove(a, b, drafts.of(OLD).branchSize(a));
                    movedWeight += costs.weightOf(OLD, a) + costs.weightOf(NEW, b);
                    return;
                }
            }
        }

        private void noteMove(int a, int b, int clauses) {
            for (int i = 0; i < clauses; i++) {
                same.set(OLD, a + i, b + i);
                same.set(NEW, b + i, a + i);
                fates.set(OLD, a + i, MOVED);
                fates.set(NEW, b + i, MOVED);
            }
        }

        private static boolean areLike(Drafts drafts, int a, int b) {
            Draft before = drafts.of(OLD);
            Draft after = drafts.of(NEW);
            int clauses = before.branchSize(a);
            if (clauses != after.branchSize(b)) {
                return false;
            }
            int sunk = after.depthOf(b) - before.depthOf(a);
            for (int i = 0; i < clauses; i++) {
                if (before.depthOf(a + i) + sunk != after.depthOf(b + i)
                        || !haveLikeWords(before, a + i, after, b + i)) {
                    return false;
                }
            }
            return true;
        }

        private static boolean haveLikeWords(Draft before, int a, Draft after, int b) {
            if (before.lengthOf(a) != after.lengthOf(b)) {
                return false;
            }
            for (int w = 0; w < before.lengthOf(a); w++) {
                if (!areAlike(before.codeOf(a, w), after.codeOf(b, w))) {
                    return false;
                }
            }
            return true;
        }
    }

    /** The changes in their order, each with its choice. */
    private static final class Changes {
        static final int REMOVAL = 0, ADDITION = 1, MOVE = 2, STRETCH = 3, TURN = 4;

        /** The columns are numbered as change() numbers the properties. */
        static final int KIND = 0, CHOICE = 1;
        private static final int OLD_CLAUSE = 2, NEW_CLAUSE = 3, OLD_BEFORE = 4, GOES = 5;
        private static final int NEW_BEFORE = 6, COMES = 7, COLUMNS = 8;

        private final Table rows = new Table(MAX_CHANGES, COLUMNS);

        /** For the first clause of each step: its first change, or the one that would be next. */
        private final Table firsts = new Table(SIDES, MAX_CLAUSES);
        private int size;
        private int renumbered;

        int size() {
            return size;
        }

        int renumbered() {
            return renumbered;
        }

        int property(int k, int what) {
            return rows.get(k, what);
        }

        int choiceOf(int k) {
            return rows.get(k, CHOICE);
        }

        void setChoice(int k, int how) {
            rows.set(k, CHOICE, how);
        }

        int firstOf(int side, int c) {
            return firsts.get(side, c);
        }

        boolean isInPair(int k, int a) {
            return rows.get(k, KIND) >= STRETCH && rows.get(k, OLD_CLAUSE) == a;
        }

        int oldBegin(int k) {
            return rows.get(k, OLD_BEFORE);
        }

        int oldEnd(int k) {
            return rows.get(k, OLD_BEFORE) + rows.get(k, GOES);
        }

        int newBegin(int k) {
            return rows.get(k, NEW_BEFORE);
        }

        int newEnd(int k) {
            return rows.get(k, NEW_BEFORE) + rows.get(k, COMES);
        }

        int countOf(int what, int value) {
            int sum = 0;
            for (int k = 0; k < size; k++) {
                sum += rows.get(k, what) == value ? 1 : 0;
            }
            return sum;
        }

        int reopen() {
            int changed = size - countOf(CHOICE, OPEN);
            for (int k = 0; k < size; k++) {
                setChoice(k, OPEN);
            }
            return changed;
        }

        int closeOpen(int how) {
            int changed = countOf(CHOICE, OPEN);
            for (int k = 0; k < size; k++) {
                if (choiceOf(k) == OPEN) {
                    setChoice(k, how);
                }
            }
            return changed;
        }

        void collect(Drafts drafts, Pairing pairing) {
            size = 0;
            renumbered = 0;
            for (int step = 0; step < pairing.size(); step++) {
                int a = pairing.clauseOf(step, OLD);
                int b = pairing.clauseOf(step, NEW);
                if (pairing.kindOf(step) == PAIR) {
                    firsts.set(OLD, a, size);
                    collectPair(drafts, pairing, a, b);
                } else if (pairing.kindOf(step) == REMOVED) {
                    collectRemoved(pairing, a);
                } else if (pairing.fateOf(NEW, b) == ALONE) {
                    firsts.set(NEW, b, size);
                    append(ADDITION, NONE, b);
                }
            }
        }

        private void collectRemoved(Pairing pairing, int a) {
            firsts.set(OLD, a, size);
            if (pairing.fateOf(OLD, a) == MOVED) {
                int b = pairing.sameAs(OLD, a);
                firsts.set(NEW, b, size);
                append(MOVE, a, b);
            } else {
                append(REMOVAL, a, NONE);
            }
        }

        private void collectPair(Drafts drafts, Pairing pairing, int a, int b) {
            Draft before = drafts.of(OLD);
            int i = 0;
            int j = 0;
            for (int w = 0; w < before.lengthOf(a); w++) {
                int other = pairing.keptWith(OLD, a, w);
                if (other != NONE) {
                    appendStretch(a, b, i, w, j, other);
                    collectKept(drafts, pairing, a, w, b, other);
                    i = w + 1;
                    j = other + 1;
                }
            }
            appendStretch(a, b, i, before.lengthOf(a), j, drafts.of(NEW).lengthOf(b));
        }

        private void appendStretch(int a, int b, int i, int oldEnd, int j, int newEnd) {
            if (i < oldEnd || j < newEnd) {
                append(STRETCH, a, b);
                noteWords(i, oldEnd - i, j, newEnd - j);
            }
        }

        private void collectKept(Drafts drafts, Pairing pairing, int a, int i, int b, int j) {
            int x = drafts.of(OLD).targetOf(a, i);
            int y = drafts.of(NEW).targetOf(b, j);
            if (x == NONE && y == NONE) {
                return;
            }
            if (x == NONE || y == NONE || pairing.sameAs(OLD, x) != y) {
                append(TURN, a, b);
                noteWords(i, 1, j, 1);
            } else if (x != y) {
                renumbered++;
            }
        }

        private void append(int kind, int a, int b) {
            if (size < MAX_CHANGES) {
                rows.set(size, KIND, kind);
                rows.set(size, CHOICE, OPEN);
                rows.set(size, OLD_CLAUSE, a);
                rows.set(size, NEW_CLAUSE, b);
                for (int column = OLD_BEFORE; column < COLUMNS; column++) {
                    rows.set(size, column, NONE);
                }
                size++;
            }
        }

        private void noteWords(int oldBefore, int goes, int newBefore, int comes) {
            rows.set(size - 1, OLD_BEFORE, oldBefore);
            rows.set(size - 1, GOES, goes);
            rows.set(size - 1, NEW_BEFORE, newBefore);
            rows.set(size - 1, COMES, comes);
        }
    }

    /** What is shown by one of the two ways. */
    private static final class View {
        private static final int MAX_SHOWN = 2 * MAX_CLAUSES;

        /** Only a pair shows words of both drafts, so both together are a bound. */
        private static final int MAX_SHOWN_WORDS = 2 * MAX_WORDS;

        private final boolean acceptsOpen;
        private final Line depths = new Line(MAX_SHOWN);
        private final Line lengths = new Line(MAX_SHOWN);
        private final Line sides = new Line(MAX_SHOWN);
        private final Table codes = new Table(MAX_SHOWN, MAX_SHOWN_WORDS);
        private final Table origins = new Table(MAX_SHOWN, SIDES);
        private final Table places = new Table(SIDES, MAX_CLAUSES);
        private int size;

        View(boolean acceptsOpen) {
            this.acceptsOpen = acceptsOpen;
        }

        int size() {
            return size;
        }

        int depthOf(int i) {
            return depths.get(i);
        }

        int lengthOf(int i) {
            return lengths.get(i);
        }

        int codeOf(int i, int w) {
            return codes.get(i, w);
        }

        int originOf(int i, int side) {
            return origins.get(i, side);
        }

        int placeOf(int side, int c) {
            return places.get(side, c);
        }

        int wordCount() {
            int sum = 0;
            for (int i = 0; i < size; i++) {
                sum += lengths.get(i);
            }
            return sum;
        }

        int lostCount() {
            int sum = 0;
            for (int i = 0; i < size; i++) {
                for (int w = 0; w < lengths.get(i); w++) {
                    sum += codes.get(i, w) == LOST ? 1 : 0;
                }
            }
            return sum;
        }

        int depthSum() {
            int sum = 0;
            for (int i = 0; i < size; i++) {
                sum += depths.get(i);
            }
            return sum;
        }

        int longest() {
            int most = 0;
            for (int i = 0; i < size; i++) {
                most = Math.max(most, lengths.get(i));
            }
            return most;
        }

        void copyInto(Draft d) {
            d.removeAll();
            for (int i = 0; i < size; i++) {
                d.appendClause(depths.get(i));
                for (int w = 0; w < lengths.get(i); w++) {
                    int code = codes.get(i, w);
                    d.appendWord(i, code == LOST ? LAST_REFERENCE : code);
                }
            }
        }

        /** The words come last: a reference may lead to a clause that is shown behind it. */
        void build(Drafts drafts, Pairing pairing, Changes changes) {
            size = 0;
            places.fill(NONE);
            for (int step = 0; step < pairing.size(); step++) {
                listStep(drafts, pairing, changes, step);
            }
            for (int i = 0; i < size; i++) {
                int a = origins.get(i, OLD);
                int b = origins.get(i, NEW);
                if (a != NONE && pairing.fateOf(OLD, a) == PAIRED) {
                    showPair(drafts, changes, i, a, b);
                } else {
                    int side = sides.get(i);
                    int c = origins.get(i, side);
                    showWords(drafts, i, side, c, 0, drafts.of(side).lengthOf(c));
                }
            }
        }

        private void listStep(Drafts drafts, Pairing pairing, Changes changes, int step) {
            int kind = pairing.kindOf(step);
            if (kind == PAIR) {
                listClause(drafts, pairing, OLD, pairing.clauseOf(step, OLD));
                return;
            }
            int side = kind == REMOVED ? OLD : NEW;
            int first = pairing.clauseOf(step, side);
            boolean accepted = accepts(changes, changes.firstOf(side, first));
            if (accepted == (side == NEW)) {
                int clauses = drafts.of(side).branchSize(first);
                for (int c = first; c < first + clauses; c++) {
                    listClause(drafts, pairing, side, c);
                }
            }
        }

        private boolean accepts(Changes changes, int k) {
            int choice = changes.choiceOf(k);
            return choice == ACCEPTED || choice == OPEN && acceptsOpen;
        }

        private void listClause(Drafts drafts, Pairing pairing, int side, int c) {
            if (size >= MAX_SHOWN) {
                return;
            }
            int other = pairing.sameAs(side, c);
            depths.set(size, drafts.of(side).depthOf(c));
            lengths.set(size, 0);
            sides.set(size, side);
            origins.set(size, side, c);
            origins.set(size, 1 - side, other);
            places.set(side, c, size);
            places.set(1 - side, other, size);
            size++;
        }

        /** Between the changes of a pair there are only kept words, which the old draft has too. */
        private void showPair(Drafts drafts, Changes changes, int i, int a, int b) {
            int shownTo = 0;
            int first = changes.firstOf(OLD, a);
            for (int k = first; k < changes.size() && changes.isInPair(k, a); k++) {
                showWords(drafts, i, OLD, a, shownTo, changes.oldBegin(k));
                shownTo = changes.oldEnd(k);
                if (accepts(changes, k)) {
                    showWords(drafts, i, NEW, b, changes.newBegin(k), changes.newEnd(k));
                } else {
                    showWords(drafts, i, OLD, a, changes.oldBegin(k), shownTo);
                }
            }
            showWords(drafts, i, OLD, a, shownTo, drafts.of(OLD).lengthOf(a));
        }

        private void showWords(Drafts drafts, int i, int side, int c, int begin, int end) {
            Draft d = drafts.of(side);
            for (int w = begin; w < end; w++) {
                int code = d.codeOf(c, w);
                int shown = isReference(code) ? shownReference(d, side, code) : code;
                codes.set(i, lengths.get(i), shown);
                lengths.set(i, Math.min(lengths.get(i) + 1, MAX_SHOWN_WORDS));
            }
        }

        private int shownReference(Draft d, int side, int code) {
            int target = code - REFERENCE;
            int place = d.has(target) ? places.get(side, target) : NONE;
            return place == NONE ? LOST : REFERENCE + place;
        }
    }

    /** Both drafts, the head and the choices, as they once were. */
    private static final class Image {
        private final Drafts copy = new Drafts();
        private final Line choices = new Line(MAX_CHANGES);
        private boolean filled;

        boolean isFilled() {
            return filled;
        }

        void makeEmpty() {
            filled = false;
        }

        void take(Drafts drafts, Changes changes) {
            copy.copyTexts(drafts);
            copy.setHeadWeight(drafts.headWeight());
            for (int k = 0; k < changes.size(); k++) {
                choices.set(k, changes.choiceOf(k));
            }
            filled = true;
        }

        void restoreDrafts(Drafts drafts) {
            drafts.copyTexts(copy);
            drafts.setHeadWeight(copy.headWeight());
        }

        /** The same drafts have the same changes, so their numbers say which is which. */
        void restoreChoices(Changes changes) {
            for (int k = 0; k < changes.size(); k++) {
                changes.setChoice(k, choices.get(k));
            }
        }
    }

    /** The four sheets; a char is held as the int that it is. */
    private static final class Sheets {
        static final int MAX_ELEMENTS = 20;
        private static final int SHEETS = 4, CHARS = 0, INTS = 1, LOWEST_16_BITS = 0xFFFF;

        private final Line present = new Line(SHEETS);
        private final Line lanes = new Line(SHEETS);
        private final Line sizes = new Line(SHEETS);
        private final Table elements = new Table(SHEETS, MAX_ELEMENTS);

        static boolean isNumber(int k) {
            return within(k, 0, SHEETS - 1);
        }

        static boolean isLane(int lane) {
            return lane == CHARS || lane == INTS;
        }

        boolean isMissing(int k) {
            return present.get(k) == 0;
        }

        int laneOf(int k) {
            return lanes.get(k);
        }

        int sizeOf(int k) {
            return sizes.get(k);
        }

        int elementOf(int k, int i) {
            return elements.get(k, i);
        }

        void create(int k, int lane, int n) {
            present.set(k, 1);
            lanes.set(k, lane);
            sizes.set(k, n);
            for (int i = 0; i < MAX_ELEMENTS; i++) {
                elements.set(k, i, 0);
            }
        }

        void setElement(int k, int i, int v) {
            elements.set(k, i, lanes.get(k) == CHARS ? v & LOWEST_16_BITS : v);
        }
    }
}
