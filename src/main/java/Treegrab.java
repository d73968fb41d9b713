/**
 * A searcher of parsed sentences: trees, patterns and scripts come as texts over one tape;
 * the matches of the pattern are found in two ways, and scripts edit the nodes of the first one.
 */
public final class Treegrab {
    public static final int NONE = -1;

    private static final int PLACES = 3;
    private static final int MOST_BYTES = 600;
    private static final int MOST_LABEL = 6;
    private static final int MOST_NODES = 20;
    private static final int MOST_PARTS = 8;
    private static final int MOST_NUMBERED = 4;
    private static final int MOST_EDITS = 8;
    private static final int MOST_CALLS = 512;
    private static final int LETTERS = 26;

    /** The longest shown tree: 20 labels of 6 bytes, 19 pairs of brackets, 19 blanks. */
    private static final int MOST_SHOWN = 184;

    private static final int FAULT_PLACE = 1;
    private static final int FAULT_LENGTH = 2;
    private static final int FAULT_ROOM = 3;
    private static final int FAULT_NAME = 4;

    private static final int CHILD = 0;
    private static final int BELOW = 1;
    private static final int ONLY = 2;
    private static final int NTH = 3;
    private static final int NTH_LAST = 4;
    private static final int NEXT_WORD = 5;
    private static final int LATER_WORD = 6;
    private static final int SIBLING = 7;
    private static final int NEXT_SIBLING = 8;
    private static final int LATER_SIBLING = 9;

    /** An operator is its kind, this sign if it tells of the other node and this one, and its n above that. */
    private static final int KIND_BITS = 15;
    private static final int TURNED = 16;
    private static final int NTH_SHIFT = 5;

    private static final int ANY = 0;
    private static final int ONE_OF = 1;
    private static final int NONE_OF = 2;
    private static final int SAME_LABEL = 3;
    private static final int AGAIN = 4;

    private static final int PLAIN = 0;
    private static final int DENIED = 1;
    private static final int OPTIONAL = 2;

    private static final int RENAME = 0;
    private static final int DELETE = 1;
    private static final int EXCISE = 2;
    private static final int WRAP = 3;
    private static final int ADD = 4;
    private static final int MOVE = 5;

    private static final int FIRST = 0;
    private static final int LAST = 1;
    private static final int BEFORE = 2;
    private static final int AFTER = 3;

    private final Tape tape = new Tape();
    private final Tree[] trees = {new Tree(), new Tree(), new Tree()};
    private final Search search = new Search();
    private final Found planned = new Found();
    private final Found tried = new Found();
    private final Bench bench = new Bench();
    private final History history = new History();
    private final Out out = new Out();

    /** Texts are read into the spare ones, so that a fault leaves what stood before. */
    private Tree spareTree = new Tree();
    private Pattern grabber = new Pattern();
    private Pattern sparePattern = new Pattern();
    private Script orders = new Script();
    private Script spareScript = new Script();
    private int faultCode;
    private int faultSpot;

    /** The place of the tree for which the search stands prepared. */
    private int preparedPlace = NONE;

    public Treegrab() {
    }

    // ---- the tape, and who takes it over

    public int feed(long bytes, int n) throws IllegalArgumentException, IllegalStateException {
        if (n < 1 || n > 8) {
            throw new IllegalArgumentException("n is 1 to 8");
        }
        if (tape.length + n > MOST_BYTES) {
            throw new IllegalStateException("the tape is full");
        }
        tape.append(bytes, n);
        return tape.length;
    }

    public int plant(int place) throws IndexOutOfBoundsException, IllegalStateException {
        if (isNoPlace(place)) {
            tape.drop();
            throw new IndexOutOfBoundsException("no such place");
        }
        boolean whole = spareTree.read(tape);
        takeFault();
        if (!whole) {
            throw new IllegalStateException("the tree has a fault");
        }
        Tree old = trees[place];
        trees[place] = spareTree;
        spareTree = old;
        trees[place].settle();
        history.clear(place);
        forgetMatches();
        return trees[place].count;
    }

    public int pattern() throws IllegalStateException {
        boolean whole = sparePattern.read(tape);
        takeFault();
        if (!whole) {
            throw new IllegalStateException("the pattern has a fault");
        }
        Pattern old = grabber;
        grabber = sparePattern;
        sparePattern = old;
        forgetMatches();
        return grabber.numbered;
    }

    public int script() throws IllegalStateException {
        boolean whole = spareScript.read(tape);
        takeFault();
        if (!whole) {
            throw new IllegalStateException("the script has a fault");
        }
        Script old = orders;
        orders = spareScript;
        spareScript = old;
        return orders.count;
    }

    public int fault(boolean place) {
        return place ? faultSpot : faultCode;
    }

    // ---- trees

    public int nodes(int place) throws IndexOutOfBoundsException {
        requirePlace(place);
        return trees[place].count;
    }

    public int parent(int place, int node) throws IndexOutOfBoundsException {
        requireNode(place, node);
        return trees[place].parents[node];
    }

    public int children(int place, int node) throws IndexOutOfBoundsException {
        requireNode(place, node);
        return trees[place].kids[node];
    }

    public int wordOf(int place, int node, boolean last) throws IndexOutOfBoundsException {
        requireNode(place, node);
        return last ? trees[place].lasts[node] : trees[place].firsts[node];
    }

    public int withLabel(int place) throws IndexOutOfBoundsException {
        long sought = tape.wholeLabel();
        tape.drop();
        requirePlace(place);
        return sought == 0 ? 0 : trees[place].holdersByIndex(sought);
    }

    public int withLabelByWalk(int place) throws IndexOutOfBoundsException {
        int length = tape.length;
        tape.drop();
        requirePlace(place);
        return trees[place].holdersByWalk(tape.bytes, length);
    }

    // ---- matches

    public int matches(int place) throws IndexOutOfBoundsException {
        requirePlace(place);
        findPlanned(place);
        return planned.count;
    }

    public int matchesByTrying(int place) throws IndexOutOfBoundsException {
        requirePlace(place);
        findByTrying(place);
        return tried.count;
    }

    public int matchAt(int place, int match, int number) throws IndexOutOfBoundsException {
        requirePlace(place);
        findPlanned(place);
        requireMatch(planned, match, number);
        return planned.nodeIn(match, number);
    }

    public int matchAtByTrying(int place, int match, int number) throws IndexOutOfBoundsException {
        requirePlace(place);
        findByTrying(place);
        requireMatch(tried, match, number);
        return tried.nodeIn(match, number);
    }

    public int planAt(int place, int step) throws IndexOutOfBoundsException {
        requirePlace(place);
        if (isUnsearchable(place)) {
            throw new IndexOutOfBoundsException("there is no tree or no pattern");
        }
        prepareSearch(place);
        if (step < 0 || step >= search.planLength) {
            throw new IndexOutOfBoundsException("the plan has no such step");
        }
        return search.plan[step];
    }

    // ---- edits

    public int edit(int place) throws IndexOutOfBoundsException, IllegalStateException {
        requirePlace(place);
        findPlanned(place);
        if (planned.count == 0) {
            return 0;
        }
        bench.take(trees[place]);
        for (int i = 0; i < orders.count; i++) {
            int x = nodeNamed(orders.xs[i]);
            int y = nodeNamed(orders.ys[i]);
            boolean named = (x != NONE || !orders.needsX(i)) && (y != NONE || !orders.needsY(i));
            if (named && !bench.perform(orders, i, x, y)) {
                throw new IllegalStateException("an EDIT cannot be done");
            }
        }
        if (bench.done > 0) {
            history.keep(place, trees[place]);
            bench.giveTo(trees[place]);
            forgetMatches();
        }
        return bench.done;
    }

    public int undo(int place) throws IndexOutOfBoundsException, IllegalStateException {
        requirePlace(place);
        if (!history.giveBack(place, trees[place])) {
            throw new IllegalStateException("no edit to take back");
        }
        forgetMatches();
        return trees[place].count;
    }

    // ---- the out

    public int show(int place) throws IndexOutOfBoundsException {
        requirePlace(place);
        out.putTree(trees[place]);
        return out.length;
    }

    public int label(int place, int node) throws IndexOutOfBoundsException {
        requireNode(place, node);
        out.length = 0;
        out.putLabel(trees[place].labels[node]);
        return out.length;
    }

    public long word(int i) {
        return out.eightFrom(i);
    }

    private static boolean isNoPlace(int place) {
        return place < 0 || place >= PLACES;
    }

    private static void requirePlace(int place) {
        if (isNoPlace(place)) {
            throw new IndexOutOfBoundsException("no such place");
        }
    }

    private void requireNode(int place, int node) {
        requirePlace(place);
        if (node < 0 || node >= trees[place].count) {
            throw new IndexOutOfBoundsException("no such node");
        }
    }

    private void requireMatch(Found found, int match, int number) {
        if (match < 0 || match >= found.count) {
            throw new IndexOutOfBoundsException("no such match");
        }
        if (number < 0 || number >= grabber.numbered) {
            throw new IndexOutOfBoundsException("no such number");
        }
    }

    private void takeFault() {
        faultCode = tape.code;
        faultSpot = tape.spot;
        tape.drop();
    }

    private boolean isUnsearchable(int place) {
        return trees[place].count == 0 || grabber.count == 0;
    }

    private void prepareSearch(int place) {
        if (preparedPlace != place) {
            search.prepare(trees[place], grabber);
            preparedPlace = place;
        }
    }

    private void forgetMatches() {
        preparedPlace = NONE;
        planned.place = NONE;
        tried.place = NONE;
    }

    private void findPlanned(int place) {
        if (planned.place == place) {
            return;
        }
        planned.clear(place, trees[place].count, grabber.numbered);
        if (!isUnsearchable(place)) {
            prepareSearch(place);
            search.runPlan(planned);
        }
    }

    private void findByTrying(int place) {
        if (tried.place == place) {
            return;
        }
        tried.clear(place, trees[place].count, grabber.numbered);
        if (!isUnsearchable(place)) {
            prepareSearch(place);
            search.runAll(tried);
        }
    }

    /** Which node the first match gives to the pattern's node of that name. */
    private int nodeNamed(int name) {
        if (name < 0 || name >= LETTERS) {
            return NONE;
        }
        int part = grabber.givers[name];
        int number = part == NONE ? NONE : grabber.numbers[part];
        return number == NONE ? NONE : planned.nodeIn(0, number);
    }

    private static boolean isLetter(int sign) {
        return sign >= 'a' && sign <= 'z' || sign >= 'A' && sign <= 'Z';
    }

    private static boolean isSmallLetter(int sign) {
        return sign >= 'a' && sign <= 'z';
    }

    private static boolean isDigit(int sign) {
        return sign >= '0' && sign <= '9';
    }

    /** The bytes of a text to come, and the place where the reading of it stands. */
    private static final class Tape {
        private static final int END = -1;

        private final int[] bytes = new int[MOST_BYTES];
        private int length;
        private int at;
        private int code;
        private int spot;

        private void append(long eight, int n) {
            for (int i = 0; i < n && length < MOST_BYTES; i++) {
                bytes[length] = (int) (eight >>> 8 * i) & 255;
                length++;
            }
        }

        private void drop() {
            length = 0;
        }

        private void begin() {
            at = 0;
            code = 0;
            spot = 0;
        }

        private int byteAt(int i) {
            return i >= 0 && i < length ? bytes[i] : END;
        }

        /** The first byte of the next token, behind the blanks; the reading then stands at it. */
        private int next() {
            while (at < length && (bytes[at] == 9 || bytes[at] == 32 || bytes[at] == 10)) {
                at++;
            }
            return byteAt(at);
        }

        private boolean fail(int faultCode, int place) {
            code = faultCode;
            spot = place;
            return false;
        }

        /** How many bytes the LABEL has at which the reading stands; 0 if none begins there. */
        private int wordLength() {
            if (!isLetter(byteAt(at))) {
                return 0;
            }
            int end = at + 1;
            while (end < length && (isLetter(bytes[end]) || isDigit(bytes[end]))) {
                end++;
            }
            return end - at;
        }

        /** The first bytes from a place on in one number, the first one lowest. */
        private long packed(int from, int count) {
            long value = 0;
            for (int i = 0; i < count && i < MOST_LABEL; i++) {
                value |= (long) (byteAt(from + i) & 255) << 8 * i;
            }
            return value;
        }

        /** Takes a LABEL; 0 if there is none that can stand, and the fault is told. */
        private long readLabel() {
            next();
            int count = wordLength();
            if (count == 0 || count > MOST_LABEL) {
                fail(count == 0 ? FAULT_PLACE : FAULT_LENGTH, at);
                return 0;
            }
            long value = packed(at, count);
            at += count;
            return value;
        }

        /** The whole tape as a label; 0 if it could not be the label of a node. */
        private long wholeLabel() {
            at = 0;
            int count = wordLength();
            return count == length && count <= MOST_LABEL ? packed(0, count) : 0;
        }

        private boolean spells(String text) {
            if (wordLength() != text.length()) {
                return false;
            }
            for (int i = 0; i < text.length(); i++) {
                if (byteAt(at + i) != text.charAt(i)) {
                    return false;
                }
            }
            return true;
        }
    }

    /** A tree: the labels and depths of its nodes in their order, and what follows from them. */
    private static final class Tree {
        private final long[] labels = new long[MOST_NODES];
        private final int[] depths = new int[MOST_NODES];
        private final int[] parents = new int[MOST_NODES];
        private final int[] pasts = new int[MOST_NODES];
        private final int[] kids = new int[MOST_NODES];
        private final int[] ranks = new int[MOST_NODES];
        private final int[] firsts = new int[MOST_NODES];
        private final int[] lasts = new int[MOST_NODES];
        private final long[] indexLabels = new long[MOST_NODES];
        private final int[] indexSums = new int[MOST_NODES];
        private final int[] chain = new int[MOST_NODES + 1];
        private int indexCount;
        private int count;

        private boolean read(Tape tape) {
            tape.begin();
            count = 0;
            int open = 0;
            for (int step = 0; step <= MOST_BYTES; step++) {
                int sign = tape.next();
                int start = tape.at;
                if (count > 0 && open == 0) {
                    return sign == Tape.END || tape.fail(FAULT_PLACE, start);
                }
                if (sign == ')' && open > 0) {
                    tape.at++;
                    open--;
                } else {
                    if (!readNode(tape, sign == '(', open)) {
                        return false;
                    }
                    open += sign == '(' ? 1 : 0;
                }
            }
            return false;
        }

        private boolean readNode(Tape tape, boolean bracket, int depth) {
            int start = tape.at;
            boolean full = count >= MOST_NODES;
            if (bracket && full) {
                return tape.fail(FAULT_ROOM, start);
            }
            tape.at += bracket ? 1 : 0;
            long value = tape.readLabel();
            if (value == 0) {
                return false;
            }
            if (full) {
                return tape.fail(FAULT_ROOM, start);
            }
            labels[count] = value;
            depths[count] = depth;
            count++;
            return true;
        }

        /** Derives all else from the labels and depths. */
        private void settle() {
            indexCount = 0;
            for (int i = 0; i < count; i++) {
                int depth = depths[i];
                chain[depth] = i;
                parents[i] = depth == 0 ? NONE : chain[depth - 1];
                kids[i] = 0;
                pasts[i] = i + 1;
                if (parents[i] != NONE) {
                    kids[parents[i]]++;
                    ranks[i] = kids[parents[i]];
                }
                enterInIndex(labels[i]);
            }
            for (int i = count - 1; i > 0; i--) {
                int above = parents[i];
                pasts[above] = Math.max(pasts[above], pasts[i]);
            }
            settleWords();
        }

        private void settleWords() {
            int words = 0;
            for (int i = 0; i < count; i++) {
                firsts[i] = words;
                words += kids[i] == 0 ? 1 : 0;
            }
            for (int i = 0; i < count; i++) {
                lasts[i] = (pasts[i] < count ? firsts[pasts[i]] : words) - 1;
            }
        }

        private void enterInIndex(long value) {
            int spot = seek(value);
            if (spot < indexCount && indexLabels[spot] == value) {
                indexSums[spot]++;
                return;
            }
            for (int i = indexCount; i > spot; i--) {
                indexLabels[i] = indexLabels[i - 1];
                indexSums[i] = indexSums[i - 1];
            }
            indexLabels[spot] = value;
            indexSums[spot] = 1;
            indexCount++;
        }

        /** The first spot of the index whose label is not below the sought one. */
        private int seek(long value) {
            int low = 0;
            int high = indexCount;
            while (low < high) {
                int middle = (low + high) / 2;
                if (indexLabels[middle] < value) {
                    low = middle + 1;
                } else {
                    high = middle;
                }
            }
            return low;
        }

        private int holdersByIndex(long value) {
            int spot = seek(value);
            return spot < indexCount && indexLabels[spot] == value ? indexSums[spot] : 0;
        }

        private int holdersByWalk(int[] bytes, int length) {
            int sum = 0;
            for (int i = 0; i < count; i++) {
                sum += isSpelled(labels[i], bytes, length) ? 1 : 0;
            }
            return sum;
        }

        private static boolean isSpelled(long value, int[] bytes, int length) {
            if (length < 1 || length > MOST_LABEL) {
                return false;
            }
            for (int i = 0; i < length; i++) {
                int sign = (int) (value >>> 8 * i) & 255;
                if (sign == 0 || sign != bytes[i]) {
                    return false;
                }
            }
            return value >>> 8 * length == 0;
        }

        private boolean isRelated(int operator, int node, int other) {
            boolean turned = (operator & TURNED) != 0;
            int a = turned ? other : node;
            int b = turned ? node : other;
            int nth = operator >> NTH_SHIFT;
            boolean under = parents[b] == a;
            boolean beside = a != b && parents[a] != NONE && parents[a] == parents[b];
            switch (operator & KIND_BITS) {
                case CHILD:
                    return under;
                case BELOW:
                    return b > a && b < pasts[a];
                case ONLY:
                    return under && kids[a] == 1;
                case NTH:
                    return under && ranks[b] == nth;
                case NTH_LAST:
                    return under && kids[a] - ranks[b] + 1 == nth;
                case NEXT_WORD:
                    return lasts[a] + 1 == firsts[b];
                case LATER_WORD:
                    return lasts[a] < firsts[b];
                case SIBLING:
                    return beside;
                case NEXT_SIBLING:
                    return beside && ranks[b] == ranks[a] + 1;
                case LATER_SIBLING:
                    return beside && ranks[b] > ranks[a];
                default:
                    return false;
            }
        }
    }

    /** A pattern: its nodes as they are written, each with the relation that leads to it. */
    private static final class Pattern {
        private final int[] kinds = new int[MOST_PARTS];
        private final int[] others = new int[MOST_PARTS];
        private final int[] froms = new int[MOST_PARTS];
        private final int[] marks = new int[MOST_PARTS];
        private final int[] operators = new int[MOST_PARTS];
        private final int[] labelStarts = new int[MOST_PARTS];
        private final int[] labelEnds = new int[MOST_PARTS];
        private final int[] numbers = new int[MOST_PARTS];
        private final int[] optionalHeads = new int[MOST_PARTS];
        private final int[] pasts = new int[MOST_PARTS];
        private final boolean[] denied = new boolean[MOST_PARTS];
        private final long[] labels = new long[MOST_BYTES];
        private final int[] givers = new int[LETTERS];
        private final int[] partOf = new int[MOST_NUMBERED];
        private int labelCount;
        private int count;
        private int numbered;

        private boolean read(Tape tape) {
            tape.begin();
            clear();
            if (!readNode(tape, NONE, PLAIN, 0)) {
                return false;
            }
            int here = 0;
            int open = 0;
            for (int step = 0; step <= MOST_BYTES; step++) {
                int sign = tape.next();
                if (open == 0 && sign == Tape.END) {
                    settlePasts();
                    return true;
                }
                if (open > 0 && sign == ')') {
                    tape.at++;
                    open--;
                    here = froms[here];
                } else {
                    int mark = readMark(tape, here);
                    int operator = mark == NONE ? NONE : readOperator(tape);
                    boolean bracket = operator != NONE && tape.next() == '(';
                    tape.at += bracket ? 1 : 0;
                    if (operator == NONE || !readNode(tape, here, mark, operator)) {
                        return false;
                    }
                    here = bracket ? count - 1 : here;
                    open += bracket ? 1 : 0;
                }
            }
            return false;
        }

        private void clear() {
            labelCount = 0;
            count = 0;
            numbered = 0;
            for (int i = 0; i < LETTERS; i++) {
                givers[i] = NONE;
            }
        }

        private void settlePasts() {
            for (int i = 0; i < count; i++) {
                pasts[i] = i + 1;
            }
            for (int i = count - 1; i > 0; i--) {
                pasts[froms[i]] = Math.max(pasts[froms[i]], pasts[i]);
            }
        }

        private boolean isPlain(int part) {
            return !denied[part] && optionalHeads[part] == NONE;
        }

        private boolean isNeeded(int number) {
            return isPlain(partOf[number]);
        }

        /** The number of the node that a part is, which may be met there again; NONE if it has none. */
        private int numberAt(int part) {
            return numbers[kinds[part] == AGAIN ? others[part] : part];
        }

        private int readMark(Tape tape, int here) {
            int sign = tape.next();
            if (sign != '!' && sign != '?') {
                return PLAIN;
            }
            if (sign == '?' && !isPlain(here)) {
                tape.fail(FAULT_PLACE, tape.at);
                return NONE;
            }
            tape.at++;
            return sign == '!' ? DENIED : OPTIONAL;
        }

        private static int readOperator(Tape tape) {
            int sign = tape.next();
            if (sign == '<' || sign == '>') {
                return readDominance(tape, sign);
            }
            if (sign == '.' || sign == ',') {
                return readOrder(tape, sign, NEXT_WORD, LATER_WORD);
            }
            if (sign != '$') {
                tape.fail(FAULT_PLACE, tape.at);
                return NONE;
            }
            tape.at++;
            int behind = tape.byteAt(tape.at);
            boolean ordered = behind == '.' || behind == ',';
            return ordered ? readOrder(tape, behind, NEXT_SIBLING, LATER_SIBLING) : SIBLING;
        }

        private static int readDominance(Tape tape, int sign) {
            int turned = sign == '>' ? TURNED : 0;
            tape.at++;
            int behind = tape.byteAt(tape.at);
            if (behind == sign) {
                tape.at++;
                return turned | BELOW;
            }
            if (behind == ':') {
                tape.at++;
                return turned | ONLY;
            }
            boolean fromLast = behind == '-';
            tape.at += fromLast ? 1 : 0;
            int nth = tape.byteAt(tape.at) - '0';
            if (nth >= 1 && nth <= 9) {
                tape.at++;
                return nth << NTH_SHIFT | turned | (fromLast ? NTH_LAST : NTH);
            }
            if (fromLast) {
                tape.fail(FAULT_PLACE, tape.at);
                return NONE;
            }
            return turned | CHILD;
        }

        private static int readOrder(Tape tape, int sign, int nextKind, int laterKind) {
            int turned = sign == ',' ? TURNED : 0;
            tape.at++;
            if (tape.byteAt(tape.at) != sign) {
                return turned | nextKind;
            }
            tape.at++;
            return turned | laterKind;
        }

        private boolean readNode(Tape tape, int from, int mark, int operator) {
            int sign = tape.next();
            boolean inDenied = mark == DENIED || from != NONE && denied[from];
            boolean isNumbered = sign != '=' && !inDenied;
            if (!isBegun(tape, sign, isNumbered)) {
                return false;
            }
            int part = count;
            denied[part] = inDenied;
            enterRelation(from, mark, operator);
            enterNode(isNumbered);
            tape.at += isLetter(sign) ? 0 : 1;
            switch (sign) {
                case '=':
                    kinds[part] = AGAIN;
                    return readToldName(tape, part);
                case '~':
                    kinds[part] = SAME_LABEL;
                    return readToldName(tape, part) && readGivenName(tape, part);
                case '*':
                    kinds[part] = ANY;
                    return readGivenName(tape, part);
                default:
                    kinds[part] = sign == '!' ? NONE_OF : ONE_OF;
                    return readLabels(tape, part) && readGivenName(tape, part);
            }
        }

        /** Whether a node can begin at this sign, and there is room for it. */
        private boolean isBegun(Tape tape, int sign, boolean isNumbered) {
            boolean lettered = isLetter(sign);
            if (!lettered && sign != '*' && sign != '=' && sign != '~' && sign != '!') {
                return tape.fail(FAULT_PLACE, tape.at);
            }
            if (lettered && tape.wordLength() > MOST_LABEL) {
                return tape.fail(FAULT_LENGTH, tape.at);
            }
            boolean full = count >= MOST_PARTS || isNumbered && numbered >= MOST_NUMBERED;
            return !full || tape.fail(FAULT_ROOM, tape.at);
        }

        private void enterRelation(int from, int mark, int operator) {
            int outer = from == NONE ? NONE : optionalHeads[from];
            froms[count] = from;
            marks[count] = mark;
            operators[count] = operator;
            optionalHeads[count] = outer == NONE && mark == OPTIONAL ? count : outer;
        }

        private void enterNode(boolean isNumbered) {
            others[count] = NONE;
            labelStarts[count] = labelCount;
            labelEnds[count] = labelCount;
            numbers[count] = NONE;
            if (isNumbered) {
                numbers[count] = numbered;
                partOf[numbered] = count;
                numbered++;
            }
            count++;
        }

        private boolean readLabels(Tape tape, int part) {
            for (int step = 0; step < MOST_BYTES && labelCount < MOST_BYTES; step++) {
                long value = tape.readLabel();
                if (value == 0) {
                    return false;
                }
                labels[labelCount] = value;
                labelCount++;
                labelEnds[part] = labelCount;
                if (tape.next() != '|') {
                    return true;
                }
                tape.at++;
            }
            return false;
        }

        /** Takes a name; NONE if there is none, and the fault is told. */
        private static int readName(Tape tape) {
            int sign = tape.next();
            if (!isSmallLetter(sign)) {
                tape.fail(FAULT_PLACE, tape.at);
                return NONE;
            }
            tape.at++;
            return sign - 'a';
        }

        private boolean readToldName(Tape tape, int part) {
            int name = readName(tape);
            if (name == NONE) {
                return false;
            }
            int giver = givers[name];
            if (giver == NONE || !isPlain(giver)) {
                return tape.fail(FAULT_NAME, tape.at - 1);
            }
            others[part] = giver;
            return true;
        }

        private boolean readGivenName(Tape tape, int part) {
            if (tape.next() != '=') {
                return true;
            }
            tape.at++;
            int name = readName(tape);
            if (name == NONE) {
                return false;
            }
            if (givers[name] != NONE) {
                return tape.fail(FAULT_NAME, tape.at - 1);
            }
            givers[name] = part;
            return true;
        }

        private boolean isFitting(int part, long value) {
            if (kinds[part] != ONE_OF && kinds[part] != NONE_OF) {
                return true;
            }
            for (int i = labelStarts[part]; i < labelEnds[part]; i++) {
                if (labels[i] == value) {
                    return kinds[part] == ONE_OF;
                }
            }
            return kinds[part] == NONE_OF;
        }
    }

    /** A script: its EDITs, with names as numbers from 0. */
    private static final class Script {
        private final int[] kinds = new int[MOST_EDITS];
        private final int[] xs = new int[MOST_EDITS];
        private final int[] ys = new int[MOST_EDITS];
        private final long[] labels = new long[MOST_EDITS];
        private final int[] wheres = new int[MOST_EDITS];
        private int count;

        private boolean needsX(int i) {
            return kinds[i] != ADD;
        }

        private boolean needsY(int i) {
            return kinds[i] == ADD || kinds[i] == MOVE;
        }

        private boolean read(Tape tape) {
            tape.begin();
            count = 0;
            if (tape.next() == Tape.END) {
                return true;
            }
            for (int step = 0; step <= MOST_EDITS; step++) {
                if (!readEdit(tape)) {
                    return false;
                }
                int sign = tape.next();
                if (sign == Tape.END) {
                    return true;
                }
                if (sign != ';') {
                    return tape.fail(FAULT_PLACE, tape.at);
                }
                tape.at++;
            }
            return false;
        }

        private boolean readEdit(Tape tape) {
            tape.next();
            int kind = kindAt(tape);
            if (kind == NONE || count >= MOST_EDITS) {
                return tape.fail(kind == NONE ? FAULT_PLACE : FAULT_ROOM, tape.at);
            }
            tape.at += tape.wordLength();
            int i = count;
            count++;
            kinds[i] = kind;
            xs[i] = NONE;
            ys[i] = NONE;
            labels[i] = 0;
            wheres[i] = NONE;
            if (needsX(i)) {
                xs[i] = readName(tape);
                if (xs[i] == NONE) {
                    return false;
                }
            }
            if (kind == RENAME || kind == WRAP || kind == ADD) {
                labels[i] = tape.readLabel();
                if (labels[i] == 0) {
                    return false;
                }
            }
            if (!needsY(i)) {
                return true;
            }
            wheres[i] = readWhere(tape);
            ys[i] = wheres[i] == NONE ? NONE : readName(tape);
            return ys[i] != NONE;
        }

        private static int kindAt(Tape tape) {
            if (tape.spells("rename")) {
                return RENAME;
            }
            if (tape.spells("delete")) {
                return DELETE;
            }
            if (tape.spells("excise")) {
                return EXCISE;
            }
            if (tape.spells("wrap")) {
                return WRAP;
            }
            if (tape.spells("add")) {
                return ADD;
            }
            return tape.spells("move") ? MOVE : NONE;
        }

        private static int readWhere(Tape tape) {
            tape.next();
            int where = whereAt(tape);
            if (where == NONE) {
                tape.fail(FAULT_PLACE, tape.at);
                return NONE;
            }
            tape.at += tape.wordLength();
            return where;
        }

        private static int whereAt(Tape tape) {
            if (tape.spells("first")) {
                return FIRST;
            }
            if (tape.spells("last")) {
                return LAST;
            }
            if (tape.spells("before")) {
                return BEFORE;
            }
            return tape.spells("after") ? AFTER : NONE;
        }

        private static int readName(Tape tape) {
            int sign = tape.next();
            if (tape.wordLength() != 1 || !isSmallLetter(sign)) {
                tape.fail(FAULT_PLACE, tape.at);
                return NONE;
            }
            tape.at++;
            return sign - 'a';
        }
    }

    /** A set of matches: each is a number whose digits are the nodes given, so their order is that of the matches. */
    private static final class Found {
        /** 21 digits, as -1 is one, for each of 4 nodes, one bit for each number. */
        private static final int CELLS = 21 * 21 * 21 * 21 / 64 + 1;

        private final long[] bits = new long[CELLS];
        private int place = NONE;
        private int radix = 1;
        private int digits;
        private int cells;
        private int count;

        private void clear(int ofPlace, int treeNodes, int numbered) {
            place = ofPlace;
            radix = treeNodes + 1;
            digits = numbered;
            count = 0;
            int numbers = 1;
            for (int i = 0; i < digits; i++) {
                numbers *= radix;
            }
            cells = Math.min(numbers / 64 + 1, CELLS);
            for (int i = 0; i < cells; i++) {
                bits[i] = 0;
            }
        }

        private void enter(int[] given) {
            int number = 0;
            for (int i = 0; i < digits && i < given.length; i++) {
                number = number * radix + given[i] + 1;
            }
            int cell = number >> 6;
            if (cell < 0 || cell >= cells) {
                return;
            }
            long bit = 1L << (number & 63);
            count += (bits[cell] & bit) == 0 ? 1 : 0;
            bits[cell] |= bit;
        }

        /** The number of a match, which is the set's entry behind as many as the match has ahead of it. */
        private int numberOf(int match) {
            int left = match;
            for (int cell = 0; cell < cells; cell++) {
                int here = Long.bitCount(bits[cell]);
                if (left < here) {
                    long rest = bits[cell];
                    for (int i = 0; i < left; i++) {
                        rest &= rest - 1;
                    }
                    return (cell << 6) + Long.numberOfTrailingZeros(rest);
                }
                left -= here;
            }
            return 0;
        }

        private int nodeIn(int match, int number) {
            int value = numberOf(match);
            if (radix < 1) {
                return NONE;
            }
            for (int i = digits - 1; i > number; i--) {
                value /= radix;
            }
            return value % radix - 1;
        }
    }

    /** The search in one tree; sets of its nodes are bits of numbers. */
    private static final class Search {
        private final int[] fits = new int[MOST_PARTS];
        private final int[] reaches = new int[MOST_PARTS * MOST_NODES];
        private final int[] backs = new int[MOST_PARTS * MOST_NODES];
        private final int[] alikes = new int[MOST_NODES];
        private final int[] sets = new int[MOST_PARTS];
        private final int[] taken = new int[MOST_PARTS];
        private final int[] bound = new int[MOST_NUMBERED];
        private final int[] plan = new int[MOST_NUMBERED];
        private int planLength;
        private boolean bindsAhead;
        private Tree tree;
        private Pattern pattern;
        private Found found;

        private void prepare(Tree inTree, Pattern ofPattern) {
            tree = inTree;
            pattern = ofPattern;
            for (int node = 0; node < tree.count; node++) {
                alikes[node] = 0;
                for (int other = 0; other < tree.count; other++) {
                    alikes[node] |= tree.labels[node] == tree.labels[other] ? 1 << other : 0;
                }
            }
            for (int part = 0; part < pattern.count; part++) {
                prepareFits(part);
                prepareReaches(part);
            }
            makePlan();
        }

        private void prepareFits(int part) {
            fits[part] = 0;
            for (int node = 0; node < tree.count; node++) {
                fits[part] |= pattern.isFitting(part, tree.labels[node]) ? 1 << node : 0;
            }
        }

        private void prepareReaches(int part) {
            int base = part * MOST_NODES;
            for (int node = 0; node < tree.count; node++) {
                reaches[base + node] = 0;
                backs[base + node] = 0;
            }
            for (int node = 0; node < tree.count; node++) {
                for (int other = 0; other < tree.count; other++) {
                    if (tree.isRelated(pattern.operators[part], node, other)) {
                        reaches[base + node] |= 1 << other;
                        backs[base + other] |= 1 << node;
                    }
                }
            }
        }

        private void makePlan() {
            planLength = 0;
            int chosen = 0;
            for (int step = 0; step < MOST_NUMBERED; step++) {
                int best = NONE;
                for (int number = 0; number < pattern.numbered; number++) {
                    boolean open = pattern.isNeeded(number) && (chosen >> number & 1) == 0;
                    if (open && (chosen == 0 || isJoined(number, chosen))
                            && (best == NONE || fitting(number) < fitting(best))) {
                        best = number;
                    }
                }
                if (best == NONE) {
                    return;
                }
                plan[planLength] = best;
                planLength++;
                chosen |= 1 << best;
            }
        }

        private int fitting(int number) {
            return Integer.bitCount(fits[pattern.partOf[number]]);
        }

        private boolean isJoined(int number, int chosen) {
            for (int part = 1; part < pattern.count; part++) {
                if (pattern.isPlain(part)) {
                    int a = pattern.numberAt(pattern.froms[part]);
                    int b = pattern.numberAt(part);
                    if (a == number && (chosen >> b & 1) != 0 || b == number && (chosen >> a & 1) != 0) {
                        return true;
                    }
                }
            }
            return false;
        }

        private void runPlan(Found into) {
            found = into;
            bindsAhead = true;
            bind(0, 0);
        }

        private void runAll(Found into) {
            found = into;
            bindsAhead = false;
            walk(0);
        }

        /** One loop of the plan for each step; behind the last one all that is written is looked at. */
        private void bind(int step, int chosen) {
            if (step >= planLength) {
                walk(0);
                return;
            }
            int number = plan[step];
            int options = optionsInPlan(number, chosen);
            for (int node = 0; node < tree.count; node++) {
                if ((options >> node & 1) != 0) {
                    bound[number] = node;
                    bind(step + 1, chosen | 1 << number);
                }
            }
        }

        /** What the relations with the nodes that are bound leave for the next one. */
        private int optionsInPlan(int number, int chosen) {
            int options = fits[pattern.partOf[number]];
            for (int part = 1; part < pattern.count; part++) {
                if (pattern.isPlain(part)) {
                    int a = pattern.numberAt(pattern.froms[part]);
                    int b = pattern.numberAt(part);
                    if (b == number && (chosen >> a & 1) != 0) {
                        options &= reaches[part * MOST_NODES + bound[a]];
                    }
                    if (a == number && (chosen >> b & 1) != 0) {
                        options &= backs[part * MOST_NODES + bound[b]];
                    }
                }
            }
            return options;
        }

        /** Goes through the pattern as it is written, from a part on; enters a match at its end. */
        private void walk(int part) {
            if (part >= pattern.count) {
                found.enter(bound);
                return;
            }
            int options = part == 0 ? fits[0] : reaches[part * MOST_NODES + taken[pattern.froms[part]]];
            if (pattern.denied[part]) {
                if ((options & satisfying(part)) == 0) {
                    walk(pattern.pasts[part]);
                }
                return;
            }
            if (pattern.optionalHeads[part] == part && (options & satisfying(part)) == 0) {
                leaveOut(part);
                walk(pattern.pasts[part]);
                return;
            }
            int number = pattern.numbers[part];
            options &= ownNodes(part);
            if (bindsAhead && number != NONE && pattern.isPlain(part)) {
                options &= 1 << bound[number];
            }
            for (int node = 0; node < tree.count; node++) {
                if ((options >> node & 1) != 0) {
                    taken[part] = node;
                    if (number != NONE) {
                        bound[number] = node;
                    }
                    walk(part + 1);
                }
            }
        }

        private void leaveOut(int head) {
            for (int part = head; part < pattern.pasts[head]; part++) {
                if (pattern.numbers[part] != NONE) {
                    bound[pattern.numbers[part]] = NONE;
                }
            }
        }

        /** The nodes that are as a part says by itself. */
        private int ownNodes(int part) {
            if (pattern.kinds[part] == AGAIN) {
                return 1 << bound[pattern.numbers[pattern.others[part]]];
            }
            if (pattern.kinds[part] == SAME_LABEL) {
                return alikes[bound[pattern.numbers[pattern.others[part]]]];
            }
            return fits[part];
        }

        /** The nodes that are as a part says with its own relations, whatever nodes those find. */
        private int satisfying(int head) {
            int past = pattern.pasts[head];
            for (int part = head; part < past; part++) {
                sets[part] = ownNodes(part);
            }
            for (int part = past - 1; part > head; part--) {
                int having = 0;
                for (int node = 0; node < tree.count; node++) {
                    having |= (sets[part] >> node & 1) != 0 ? backs[part * MOST_NODES + node] : 0;
                }
                sets[pattern.froms[part]] &= pattern.marks[part] == DENIED ? ~having : having;
            }
            return sets[head];
        }
    }

    /** Where a tree is edited: its rows are copied, so that an EDIT that cannot be done spoils nothing. */
    private static final class Bench {
        private final long[] labels = new long[MOST_NODES];
        private final int[] depths = new int[MOST_NODES];
        private final int[] ids = new int[MOST_NODES];
        private final long[] heldLabels = new long[MOST_NODES];
        private final int[] heldDepths = new int[MOST_NODES];
        private final int[] heldIds = new int[MOST_NODES];
        private int count;
        private int held;
        private int nextId;
        private int done;

        private void take(Tree tree) {
            count = tree.count;
            for (int i = 0; i < count; i++) {
                labels[i] = tree.labels[i];
                depths[i] = tree.depths[i];
                ids[i] = i;
            }
            nextId = MOST_NODES;
            done = 0;
        }

        private void giveTo(Tree tree) {
            tree.count = count;
            for (int i = 0; i < count; i++) {
                tree.labels[i] = labels[i];
                tree.depths[i] = depths[i];
            }
            tree.settle();
        }

        /** Does one EDIT on the nodes x and y of the tree as it was taken; false if it cannot be done. */
        private boolean perform(Script script, int i, int x, int y) {
            int spot = spotOf(x);
            int goal = spotOf(y);
            if (script.needsX(i) && spot == NONE || script.needsY(i) && goal == NONE) {
                return false;
            }
            done++;
            switch (script.kinds[i]) {
                case RENAME:
                    labels[spot] = script.labels[i];
                    return true;
                case DELETE:
                    return cutOut(spot);
                case EXCISE:
                    return dissolve(spot);
                case WRAP:
                    return enclose(spot, script.labels[i]);
                case ADD:
                    return putNew(script.labels[i], script.wheres[i], goal);
                case MOVE:
                    return shift(spot, script.wheres[i], goal);
                default:
                    return false;
            }
        }

        private int spotOf(int id) {
            for (int i = 0; i < count; i++) {
                if (ids[i] == id) {
                    return i;
                }
            }
            return NONE;
        }

        /** The spot just behind a node and all that is below it. */
        private int pastOf(int spot) {
            int past = spot + 1;
            while (past < count && depths[past] > depths[spot]) {
                past++;
            }
            return past;
        }

        private boolean isWord(int spot) {
            return pastOf(spot) == spot + 1;
        }

        private int aboveOf(int spot) {
            int above = spot - 1;
            while (above >= 0 && depths[above] >= depths[spot]) {
                above--;
            }
            return above;
        }

        private void closeGap(int from, int past) {
            int width = past - from;
            for (int i = past; i < count; i++) {
                labels[i - width] = labels[i];
                depths[i - width] = depths[i];
                ids[i - width] = ids[i];
            }
            count -= width;
        }

        private void openGap(int spot, int width) {
            for (int i = count - 1; i >= spot; i--) {
                labels[i + width] = labels[i];
                depths[i + width] = depths[i];
                ids[i + width] = ids[i];
            }
            count += width;
        }

        private void putRow(int spot, long value, int depth) {
            labels[spot] = value;
            depths[spot] = depth;
            ids[spot] = nextId;
            nextId++;
        }

        private boolean cutOut(int spot) {
            int above = aboveOf(spot);
            closeGap(spot, pastOf(spot));
            return above != NONE && prune(above);
        }

        /** Takes away a node that has no children left, and so on upward; false if that is the root. */
        private boolean prune(int spot) {
            int bare = spot;
            while (bare > 0 && isWord(bare)) {
                int above = aboveOf(bare);
                closeGap(bare, bare + 1);
                bare = above;
            }
            return bare > 0 || count > 1;
        }

        private boolean dissolve(int spot) {
            int past = pastOf(spot);
            if (isWord(spot) || spot == 0 && pastOf(1) < count) {
                return false;
            }
            for (int i = spot + 1; i < past; i++) {
                depths[i]--;
            }
            closeGap(spot, spot + 1);
            return true;
        }

        private boolean enclose(int spot, long value) {
            if (count >= MOST_NODES) {
                return false;
            }
            int past = pastOf(spot);
            int depth = depths[spot];
            for (int i = spot; i < past; i++) {
                depths[i]++;
            }
            openGap(spot, 1);
            putRow(spot, value, depth);
            return true;
        }

        private boolean isRefused(int where, int goal) {
            return where == FIRST || where == LAST ? isWord(goal) : goal == 0;
        }

        private int spotAt(int where, int goal) {
            if (where == BEFORE) {
                return goal;
            }
            return where == FIRST ? goal + 1 : pastOf(goal);
        }

        private int depthAt(int where, int goal) {
            return where == FIRST || where == LAST ? depths[goal] + 1 : depths[goal];
        }

        private boolean putNew(long value, int where, int goal) {
            if (count >= MOST_NODES || isRefused(where, goal)) {
                return false;
            }
            int spot = spotAt(where, goal);
            int depth = depthAt(where, goal);
            openGap(spot, 1);
            putRow(spot, value, depth);
            return true;
        }

        private boolean shift(int spot, int where, int goal) {
            int past = pastOf(spot);
            boolean within = goal >= spot && goal < past;
            if (spot == 0 || within || isRefused(where, goal)) {
                return false;
            }
            int leftId = ids[aboveOf(spot)];
            int goalId = ids[goal];
            hold(spot, past);
            closeGap(spot, past);
            int goalNow = spotOf(goalId);
            release(spotAt(where, goalNow), depthAt(where, goalNow));
            return prune(spotOf(leftId));
        }

        private void hold(int from, int past) {
            held = past - from;
            for (int i = 0; i < held; i++) {
                heldLabels[i] = labels[from + i];
                heldDepths[i] = depths[from + i];
                heldIds[i] = ids[from + i];
            }
        }

        private void release(int spot, int depth) {
            openGap(spot, held);
            for (int i = 0; i < held; i++) {
                labels[spot + i] = heldLabels[i];
                depths[spot + i] = heldDepths[i] - heldDepths[0] + depth;
                ids[spot + i] = heldIds[i];
            }
        }
    }

    /** The trees as they were ahead of the edits, each with the one before it at its place. */
    private static final class History {
        private static final int DEPTH_SHIFT = 48;

        private final long[] cells = new long[MOST_CALLS * MOST_NODES];
        private final int[] sizes = new int[MOST_CALLS];
        private final int[] befores = new int[MOST_CALLS];
        private final int[] latest = {NONE, NONE, NONE};
        private int used;

        private void clear(int place) {
            latest[place] = NONE;
        }

        private void keep(int place, Tree tree) {
            if (used >= MOST_CALLS) {
                return;
            }
            for (int i = 0; i < tree.count; i++) {
                cells[used * MOST_NODES + i] = tree.labels[i] | (long) tree.depths[i] << DEPTH_SHIFT;
            }
            sizes[used] = tree.count;
            befores[used] = latest[place];
            latest[place] = used;
            used++;
        }

        private boolean giveBack(int place, Tree tree) {
            int entry = latest[place];
            if (entry == NONE) {
                return false;
            }
            tree.count = sizes[entry];
            for (int i = 0; i < tree.count; i++) {
                long cell = cells[entry * MOST_NODES + i];
                tree.labels[i] = cell & (1L << DEPTH_SHIFT) - 1;
                tree.depths[i] = (int) (cell >>> DEPTH_SHIFT);
            }
            tree.settle();
            latest[place] = befores[entry];
            return true;
        }
    }

    /** The text that is given out. */
    private static final class Out {
        private final int[] bytes = new int[MOST_SHOWN];
        private int length;

        private void put(int sign) {
            if (length < MOST_SHOWN) {
                bytes[length] = sign;
                length++;
            }
        }

        private void putLabel(long value) {
            for (int i = 0; i < MOST_LABEL; i++) {
                int sign = (int) (value >>> 8 * i) & 255;
                if (sign != 0) {
                    put(sign);
                }
            }
        }

        private void putTree(Tree tree) {
            length = 0;
            for (int i = 0; i < tree.count; i++) {
                if (i > 0) {
                    put(' ');
                }
                boolean isWord = tree.kids[i] == 0;
                if (!isWord) {
                    put('(');
                }
                putLabel(tree.labels[i]);
                int nextDepth = i + 1 < tree.count ? tree.depths[i + 1] : 0;
                for (int depth = tree.depths[i]; isWord && depth > nextDepth; depth--) {
                    put(')');
                }
            }
        }

        private long eightFrom(int i) {
            long value = 0;
            if (i < 0 || i >= MOST_SHOWN / 8) {
                return value;
            }
            for (int k = 0; k < 8 && 8 * i + k < length; k++) {
                value |= (long) bytes[8 * i + k] << 8 * k;
            }
            return value;
        }
    }
}
