import java.util.Arrays;

/** Draws, ranks, counts and weighs the answers of a join of up to four relations; README.md says how to use it. */
public final class JoinDraws {
    public static final int NONE = -1, BAD = -2, STATE = -3, FULL = -4, GREAT = -5;
    public static final long NO = -4611686018427387904L;

    private static final int RELATIONS = 4, ROWS = 8, ATTRIBUTES = 6, VALUES = 10;
    private static final int TEXTS = 6, TAPE = 160, SHEETS = 4, ITEMS = 40, TOLD = 12;
    private static final int COPIES = 2000000000;
    private static final long MOST = 9223372036854775807L;

    private static final int A_CHECK = -6, NOT_ASKED = -7, NO_ITEM = -99;
    private static final int NOTHING = -11, OUTSIDE = -12, OTHER_SORT = -13, BELOW = -14;

    private static final int KINDS = 6, SET = 1, LOG = 2, KEYED = 3, CAPPED = 4, DOUBLED = 5;
    private static final int LONGS = 0, INTS = 1, BYTES = 2, MISSING = -1;

    private final Relation[] relations = new Relation[RELATIONS];
    private final Text[] texts = new Text[TEXTS];
    private final Sheet[] sheets = new Sheet[SHEETS];
    private final Reader reader = new Reader();
    private final Image kept = new Image();
    private final Shuffle shuffled = new Shuffle();
    private final int[] trials = new int[TOLD];
    private final int[] slated = new int[TOLD];
    /** THE QUERY as it is; stale once rows, rule or query have changed. */
    private final Join now = new Join();
    /** A join by another rule or query, or with rows removed in thought, so that what now holds stays good. */
    private final Join thought = new Join();
    private boolean stale = true;
    private int made = 0;
    private int written = 1;
    private int slatedSize = 0;
    private int rule = 0;
    private int asked = 0;

    public JoinDraws() {
        for (int r = 0; r < RELATIONS; r++) {
            relations[r] = new Relation();
        }
        for (int s = 0; s < SHEETS; s++) {
            sheets[s] = new Sheet();
        }
        texts[0] = new Text(new int[] {Text.NUMBER + (1 << Text.SHIFT)}, 1);
    }

    // ---- relations, rows

    public int relation(int kind, int attributes) {
        if (kind < 0 || kind >= KINDS || attributes < 1 || attributes >= 1 << ATTRIBUTES) {
            return BAD;
        }
        if (Integer.bitCount(attributes) > 3) {
            return BAD;
        }
        if (made >= RELATIONS) {
            return FULL;
        }
        relations[made].begin(kind, attributes);
        stale = true;
        made++;
        return made - 1;
    }

    public int row(int relation, int x, int y, int z, int copies) {
        return isRelation(relation) ? addRow(relations[relation], x, y, z, copies) : BAD;
    }

    public int remove(int relation, int row) {
        if (!isRow(relation, row)) {
            return BAD;
        }
        Relation of = relations[relation];
        if (!of.isLive(row) || !of.letsGo()) {
            return STATE;
        }
        of.setLive(row, false);
        stale = true;
        return Integer.bitCount(of.live);
    }

    public int restore(int relation, int row) {
        if (!isRow(relation, row)) {
            return BAD;
        }
        Relation of = relations[relation];
        if (of.isLive(row) || !of.takes(of.cells[row])) {
            return STATE;
        }
        of.setLive(row, true);
        stale = true;
        return Integer.bitCount(of.live);
    }

    public int copies(int relation, int row, int n) {
        if (!isRow(relation, row) || n < 1 || n > COPIES) {
            return BAD;
        }
        int before = relations[relation].copies[row];
        relations[relation].copies[row] = n;
        stale = true;
        return before;
    }

    public int told(int relation, int row, int what) {
        if (!isRow(relation, row) || what < 0 || what > 5) {
            return BAD;
        }
        Relation of = relations[relation];
        switch (what) {
            case 3: return of.copies[row];
            case 4: return of.isLive(row) ? 1 : 0;
            case 5: return isIn(of.passing(texts[rule], relation), row) ? 1 : 0;
            default: return of.valueAt(of.cells[row], of.attributeAt(what));
        }
    }

    public long worth(int relation, int row) {
        return isRow(relation, row) ? relations[relation].worthOf(row) : NO;
    }

    public int about(int relation, int what) {
        if (!isRelation(relation) || what < 0 || what > 6) {
            return BAD;
        }
        Relation of = relations[relation];
        switch (what) {
            case 0: return of.kind;
            case 1: return of.attributes;
            case 2: return of.size;
            case 3: return of.live;
            case 4: return parentOf(relation, current().tree);
            case 5: return current().tree.kids[relation];
            default: return of.passing(texts[rule], relation);
        }
    }

    public int query(int relations) {
        if (!isQuery(relations)) {
            return BAD;
        }
        asked = relations;
        stale = true;
        return Integer.bitCount(asked);
    }

    public int shape(int what) {
        if (what < 0 || what > 4) {
            return BAD;
        }
        if (asked == 0) {
            return STATE;
        }
        Join join = current();
        switch (what) {
            case 0: return join.tree.kept;
            case 1: return join.tree.checks;
            case 2: return join.tree.root;
            case 3: return join.great ? 1 : 0;
            default: return askedAttributes();
        }
    }

    // ---- texts

    public int feed(int letter) {
        if (letter < 0 || letter > 255) {
            return BAD;
        }
        return reader.take(letter) ? reader.size : FULL;
    }

    public int text() {
        if (written >= TEXTS) {
            return FULL;
        }
        int fault = reader.read();
        if (fault != NONE) {
            return -100 - fault;
        }
        texts[written] = new Text(reader.code, reader.codeSize);
        written++;
        return written - 1;
    }

    public int force(int text) {
        if (text < 0 || text >= written) {
            return BAD;
        }
        int before = rule;
        rule = text;
        stale = true;
        return before;
    }

    // ---- weights, positions

    public long weight(int relation, int row) {
        if (!isRow(relation, row) || !current().isTold() || !isIn(current().tree.kept, relation)) {
            return NO;
        }
        return current().weight[relation * ROWS + row];
    }

    public long bound(int relation) {
        if (!isRelation(relation) || !current().isTold() || !isIn(current().tree.checks, relation)) {
            return NO;
        }
        return current().bound[relation];
    }

    public long space() {
        return current().isTold() ? current().space : NO;
    }

    public long answers() {
        return current().isTold() ? current().tally() : NO;
    }

    public int at(long position, int what) {
        if (what < 0 || what > 7) {
            return BAD;
        }
        if (asked == 0) {
            return STATE;
        }
        Join join = current();
        if (join.great) {
            return GREAT;
        }
        if (position < 0 || position >= join.space) {
            return BAD;
        }
        boolean good = join.lead(position);
        if (what == 0) {
            return good ? 1 : 0;
        }
        if (!good) {
            return NONE;
        }
        return what == 1 ? join.digits() : join.answerValue(what - 2);
    }

    public long find(int digits) {
        return current().isTold() ? current().placeOf(digits) : NO;
    }

    public int draw(int seed, int what) {
        if (what < 0 || what > 1) {
            return BAD;
        }
        if (asked == 0) {
            return STATE;
        }
        Join join = current();
        if (join.great) {
            return GREAT;
        }
        if (join.space == 0) {
            return STATE;
        }
        int drawn = join.drawn(seed);
        return what == 0 ? drawn : join.draws;
    }

    public long shuffle(int seed, int n, int i) {
        if (n < 1 || n > Shuffle.PLACES || i < 0 || i >= n || !current().isTold() || current().space < n) {
            return NO;
        }
        return shuffled.placed(seed, current().space, i);
    }

    // ---- what the answers are

    public long odds(int relation, int row, int part) {
        if (!isRow(relation, row) || !isPart(part) || !isAsked(relation) || !current().isTold()) {
            return NO;
        }
        Join join = current();
        long below = join.tally();
        return below == 0 ? NO : partOf(join.use[relation * ROWS + row], below, part);
    }

    public long values(int attribute, int v) {
        if (attribute < 0 || attribute >= ATTRIBUTES || v < 0 || v >= VALUES) {
            return NO;
        }
        if (!isIn(askedAttributes(), attribute) || !current().isTold()) {
            return NO;
        }
        return current().countWith(attribute, v);
    }

    public int likeliest(int attribute) {
        if (attribute < 0 || attribute >= ATTRIBUTES) {
            return BAD;
        }
        if (!isIn(askedAttributes(), attribute)) {
            return STATE;
        }
        if (!current().isTold()) {
            return GREAT;
        }
        int best = NONE;
        long most = 0;
        for (int v = 0; v < VALUES; v++) {
            long often = current().countWith(attribute, v);
            if (often > most) {
                most = often;
                best = v;
            }
        }
        return best;
    }

    public int dangling(int relation) {
        if (!isRelation(relation)) {
            return BAD;
        }
        if (!isAsked(relation)) {
            return STATE;
        }
        return current().isTold() ? current().unused(relation) : GREAT;
    }

    public long without(int relation, int row) {
        if (!isRow(relation, row) || !relations[relation].isLive(row) || asked == 0) {
            return NO;
        }
        relations[relation].setLive(row, false);
        thought.tell(relations, texts[rule], asked);
        long left = thought.great ? NO : thought.tally();
        relations[relation].setLive(row, true);
        return left;
    }

    public long key(int what) {
        if (what < 0 || what > 1 || !current().isTold()) {
            return NO;
        }
        Join join = current();
        long count = join.tally();
        int best = NONE;
        for (int item = 0; item < RELATIONS * ROWS; item++) {
            boolean counts = isAsked(item / ROWS) && relations[item / ROWS].isLive(item % ROWS);
            if (counts && (best == NONE || join.use[item] > join.use[best])) {
                best = item;
            }
        }
        if (best == NONE) {
            return NO;
        }
        return what == 0 ? best : count - join.use[best];
    }

    public int strip(int sheet, long r) {
        if (!isSheet(sheet) || r < 0) {
            return BAD;
        }
        if (asked == 0) {
            return STATE;
        }
        if (sheets[sheet].sort == MISSING) {
            return NOTHING;
        }
        if (sheets[sheet].size > TOLD) {
            return BAD;
        }
        int opened = 0;
        int answer = NONE;
        for (int i = 0; i < sheets[sheet].size && answer == NONE; i++) {
            long item = sheets[sheet].items[i];
            if (!isLiveItem(item)) {
                answer = -20 - i;
            } else {
                trials[opened] = (int) item;
                opened++;
                setLiveItem((int) item, false);
                answer = isEnough(r) ? 100 + opened : NONE;
            }
        }
        shut(opened);
        return answer == NONE ? opened : answer;
    }

    public int slate(int i) {
        return i < 0 || i >= slatedSize ? NO_ITEM : slated[i];
    }

    public long lot(int seed, int m, int attribute, int v, int part) {
        if (m < 1 || m > 20 || !isPart(part) || !isIn(askedAttributes(), attribute)) {
            return NO;
        }
        if (!current().isTold() || current().space == 0) {
            return NO;
        }
        Join join = current();
        int above = 0;
        for (int s = 0; s < m; s++) {
            if (join.drawn(seed + s) != NONE && join.answerValue(attribute) == v) {
                above++;
            }
        }
        return partOf(above, m, part);
    }

    // ---- what was told

    public int tells(int sheet, int what) {
        if (!isSheet(sheet) || what < 0 || what > 2) {
            return BAD;
        }
        if (asked == 0) {
            return STATE;
        }
        if (!current().isTold()) {
            return GREAT;
        }
        if (sheets[sheet].sort == MISSING) {
            return NOTHING;
        }
        if (sheets[sheet].size > TOLD) {
            return BAD;
        }
        switch (what) {
            case 0: return otherwise(current(), sheets[sheet]);
            case 1: return tellers(sheets[sheet], true);
            default: return tellers(sheets[sheet], false);
        }
    }

    public int film(int sheet, int n) {
        if (!isSheet(sheet) || n < 0 || n > TOLD) {
            return BAD;
        }
        if (asked == 0) {
            return STATE;
        }
        Join join = current();
        if (join.great) {
            return GREAT;
        }
        sheets[sheet].become(INTS, n);
        for (int seed = 0; seed < n; seed++) {
            sheets[sheet].lay(seed, join.drawn(seed));
        }
        return n;
    }

    public int image() {
        kept.keep(relations, made, asked, rule);
        return made;
    }

    public int back() {
        if (!kept.there) {
            return STATE;
        }
        kept.layBack(relations);
        made = kept.made;
        asked = kept.asked;
        rule = kept.rule;
        stale = true;
        return made;
    }

    public int count(int what) {
        switch (what) {
            case 0: return made;
            case 1: return rowsOfAll(false);
            case 2: return rowsOfAll(true);
            case 3: return written;
            case 4: return reader.size;
            case 5: return rule;
            case 6: return asked;
            case 7: return slatedSize;
            default: return BAD;
        }
    }

    // ---- the host

    public int sheet(int sheet, int sort, int n) {
        if (!isSheet(sheet) || sort < MISSING || sort > BYTES) {
            return BAD;
        }
        if (sort == MISSING) {
            sheets[sheet].become(MISSING, 0);
            return 1;
        }
        if (n > ITEMS) {
            return BAD;
        }
        if (n < 0) {
            return BELOW;
        }
        sheets[sheet].become(sort, n);
        return 1;
    }

    public int put(int sheet, int i, long v) {
        if (!isSheet(sheet)) {
            return BAD;
        }
        if (sheets[sheet].sort == MISSING) {
            return NOTHING;
        }
        if (!sheets[sheet].has(i)) {
            return OUTSIDE;
        }
        sheets[sheet].lay(i, v);
        return 1;
    }

    public long item(int sheet, int i) {
        return isSheet(sheet) && sheets[sheet].has(i) ? sheets[sheet].items[i] : NO;
    }

    public int copy(int sheet, int i, int other, int j, int n) {
        if (!isSheet(sheet) || !isSheet(other)) {
            return BAD;
        }
        Sheet from = sheets[sheet];
        Sheet to = sheets[other];
        if (from.sort == MISSING || to.sort == MISSING) {
            return NOTHING;
        }
        if (from.sort != to.sort) {
            return OTHER_SORT;
        }
        if (!from.hasRun(i, n) || !to.hasRun(j, n)) {
            return OUTSIDE;
        }
        System.arraycopy(from.items, i, to.items, j, n);
        return n;
    }

    public int load(int sheet, int relation, int sort, int from, int n) {
        if (!isSheet(sheet) || !isRelation(relation) || sort < LONGS || sort > BYTES || n < 0 || n > ROWS) {
            return BAD;
        }
        Sheet source = sheets[sheet];
        if (source.sort != MISSING && source.sort != sort) {
            return OTHER_SORT;
        }
        if (source.sort == MISSING) {
            return NOTHING;
        }
        int came = 0;
        long first = from;
        for (int k = 0; k < n; k++) {
            if (first < 0 || first + 3 >= source.size) {
                return OUTSIDE;
            }
            came += addItems(relations[relation], source.items, (int) first) >= 0 ? 1 : 0;
            first += 4;
        }
        return came;
    }

    public int taken(int relation, int k) {
        if (k < 0 || k >= KINDS) {
            return BAD;
        }
        if (!isRelation(relation)) {
            return NOTHING;
        }
        return relations[relation].isA(k) ? relations[relation].kind : OTHER_SORT;
    }

    // ---- behind the calls

    private static boolean isIn(int set, int number) {
        return number >= 0 && number < 32 && (set >>> number & 1) == 1;
    }

    private static boolean isPart(int part) {
        return part == 0 || part == 1;
    }

    private static boolean isSheet(int sheet) {
        return sheet >= 0 && sheet < SHEETS;
    }

    private boolean isRelation(int relation) {
        return relation >= 0 && relation < made;
    }

    private boolean isRow(int relation, int row) {
        return isRelation(relation) && relations[relation].has(row);
    }

    private boolean isQuery(int set) {
        return set >= 0 && set < 1 << made;
    }

    private boolean isAsked(int relation) {
        return isIn(asked, relation);
    }

    private Join current() {
        if (stale) {
            now.tell(relations, texts[rule], asked);
            stale = false;
        }
        return now;
    }

    private int parentOf(int relation, Tree tree) {
        if (!isAsked(relation)) {
            return NOT_ASKED;
        }
        return isIn(tree.checks, relation) ? A_CHECK : tree.parent[relation];
    }

    private int askedAttributes() {
        int set = 0;
        for (int r = 0; r < made; r++) {
            set |= isAsked(r) ? relations[r].attributes : 0;
        }
        return set;
    }

    private int addRow(Relation of, int x, int y, int z, int copies) {
        int cells = of.packed(x, y, z);
        if (cells == NONE || copies < 1 || copies > COPIES) {
            return BAD;
        }
        if (!of.takes(cells)) {
            return STATE;
        }
        if (of.size >= ROWS) {
            return FULL;
        }
        stale = true;
        return of.add(cells, copies);
    }

    private int addItems(Relation of, long[] items, int first) {
        return addRow(of, (int) items[first], (int) items[first + 1], (int) items[first + 2], (int) items[first + 3]);
    }

    private int rowsOfAll(boolean liveOnes) {
        int rows = 0;
        for (int r = 0; r < made; r++) {
            rows += liveOnes ? Integer.bitCount(relations[r].live) : relations[r].size;
        }
        return rows;
    }

    private boolean isLiveItem(long item) {
        if (item < 0 || item >= RELATIONS * ROWS) {
            return false;
        }
        int relation = (int) item / ROWS;
        return isRelation(relation) && relations[relation].isLive((int) item % ROWS);
    }

    private void setLiveItem(int item, boolean live) {
        relations[item / ROWS].setLive(item % ROWS, live);
    }

    private boolean isEnough(long r) {
        thought.tell(relations, texts[rule], asked);
        return !thought.great && thought.tally() < r;
    }

    /** Rows are as they were ahead of the trials then, so what now holds need not be told anew. */
    private void shut(int opened) {
        slatedSize = 0;
        for (int i = opened - 1; i >= 0; i--) {
            setLiveItem(trials[i], true);
            slated[slatedSize] = trials[i];
            slatedSize++;
        }
    }

    private static int otherwise(Join join, Sheet sheet) {
        for (int i = 0; i < sheet.size; i++) {
            if (join.drawn(i) != sheet.items[i]) {
                return i;
            }
        }
        return NONE;
    }

    /** The texts, or the queries, by which all that a sheet tells would be drawn. */
    private int tellers(Sheet sheet, boolean byTexts) {
        int end = byTexts ? written : 1 << made;
        int set = 0;
        for (int i = byTexts ? 0 : 1; i < end; i++) {
            thought.tell(relations, texts[byTexts ? i : rule], byTexts ? asked : i);
            if (!thought.great && otherwise(thought, sheet) == NONE) {
                set |= 1 << i;
            }
        }
        return set;
    }

    private static long partOf(long above, long below, int part) {
        long common = commonOf(above, below);
        long whole = part == 0 ? above : below;
        return common == 0 ? whole : whole / common;
    }

    private static long commonOf(long a, long b) {
        long one = a;
        long other = b;
        // numbers of 63 bits need at most some 91 steps
        for (int turn = 0; turn < 200 && other != 0; turn++) {
            long rest = one % other;
            one = other;
            other = rest;
        }
        return one;
    }

    /** A relation's rows; the values of a row are packed into one int, four bits an attribute, so that rows match by one comparison. */
    private static final class Relation {
        /** Of each kind the kinds, as bits, that it is one of: itself and those that it is under. */
        private static final int[] IS = {1, 3, 5, 11, 21, 43};

        final int[] cells = new int[ROWS];
        final int[] copies = new int[ROWS];
        int kind = 0;
        int attributes = 0;
        /** The four bits of each of its attributes. */
        int spread = 0;
        int size = 0;
        int live = 0;

        void begin(int ofKind, int ofAttributes) {
            kind = ofKind;
            attributes = ofAttributes;
            size = 0;
            live = 0;
            spread = 0;
            for (int a = 0; a < ATTRIBUTES; a++) {
                spread |= isIn(attributes, a) ? 15 << 4 * a : 0;
            }
        }

        boolean isA(int k) {
            return kind < IS.length && isIn(IS[kind], k);
        }

        boolean has(int row) {
            return row >= 0 && row < size;
        }

        boolean isLive(int row) {
            return has(row) && isIn(live, row);
        }

        void setLive(int row, boolean to) {
            live = to ? live | 1 << row : live & ~(1 << row);
        }

        boolean letsGo() {
            return !isA(LOG);
        }

        boolean takes(int fresh) {
            for (int row = 0; row < size; row++) {
                if (isLive(row) && refuses(cells[row], fresh)) {
                    return false;
                }
            }
            return true;
        }

        private boolean refuses(int old, int fresh) {
            int first = attributeAt(0);
            return isA(SET) && old == fresh || isA(KEYED) && valueAt(old, first) == valueAt(fresh, first);
        }

        int add(int fresh, int n) {
            cells[size] = fresh;
            copies[size] = n;
            setLive(size, true);
            size++;
            return size - 1;
        }

        long worthOf(int row) {
            switch (kind) {
                case CAPPED: return Math.min(copies[row], 9);
                case DOUBLED: return 2L * copies[row];
                default: return copies[row];
            }
        }

        /** NONE, if one of the values that count is none. */
        int packed(int x, int y, int z) {
            int all = 0;
            int nth = 0;
            for (int a = 0; a < ATTRIBUTES; a++) {
                if (isIn(attributes, a)) {
                    int v = nth == 0 ? x : nth == 1 ? y : z;
                    if (v < 0 || v >= VALUES) {
                        return NONE;
                    }
                    all |= v << 4 * a;
                    nth++;
                }
            }
            return all;
        }

        int attributeAt(int n) {
            int nth = 0;
            for (int a = 0; a < ATTRIBUTES; a++) {
                if (isIn(attributes, a)) {
                    if (nth == n) {
                        return a;
                    }
                    nth++;
                }
            }
            return NONE;
        }

        int valueAt(int ofCells, int attribute) {
            boolean has = attribute >= 0 && attribute < ATTRIBUTES && (spread >>> 4 * attribute & 15) != 0;
            return has ? ofCells >>> 4 * attribute & 15 : NONE;
        }

        int passing(Text by, int number) {
            int set = 0;
            for (int row = 0; row < size; row++) {
                if (isLive(row) && by.valueFor(this, number, row) != 0) {
                    set |= 1 << row;
                }
            }
            return set;
        }

        /** Whether a row has the values that stand, as far as both have the attributes. */
        boolean matches(int row, int stands, int standsSpread) {
            return ((cells[row] ^ stands) & spread & standsSpread) == 0;
        }
    }

    /** A text as steps of a stack machine: the low bits say what to do, the others which number or name. */
    private static final class Text {
        static final int SHIFT = 4;
        static final int NUMBER = 0, NAME = 1, MINUS = 2, DENY = 3;
        static final int PLUS = 4, LESS_BY = 5, TIMES = 6, MODULO = 7, BELOW_IT = 8, SAME = 9, BOTH = 10, EITHER = 11;
        static final int ROW_NAME = 6, FROM_NAME = 7, COPIES_NAME = 8;
        private static final int STACK = 64;

        private final int[] code;
        private final int[] stack = new int[STACK];

        Text(int[] steps, int size) {
            code = Arrays.copyOf(steps, Math.max(0, size));
        }

        int valueFor(Relation of, int relation, int row) {
            int top = 0;
            for (int i = 0; i < code.length; i++) {
                int step = code[i] & (1 << SHIFT) - 1;
                int which = code[i] >>> SHIFT;
                if (step == NUMBER || step == NAME) {
                    if (top >= STACK) {
                        return 0;
                    }
                    stack[top] = step == NUMBER ? which : named(which, of, relation, row);
                    top++;
                } else if (step == MINUS || step == DENY) {
                    if (top < 1) {
                        return 0;
                    }
                    stack[top - 1] = step == MINUS ? -stack[top - 1] : bit(stack[top - 1] == 0);
                } else {
                    if (top < 2) {
                        return 0;
                    }
                    top--;
                    stack[top - 1] = joined(step, stack[top - 1], stack[top]);
                }
            }
            return top < 1 ? 0 : stack[top - 1];
        }

        private static int named(int name, Relation of, int relation, int row) {
            switch (name) {
                case ROW_NAME: return row;
                case FROM_NAME: return relation;
                case COPIES_NAME: return of.copies[row];
                default: return of.valueAt(of.cells[row], name);
            }
        }

        private static int joined(int step, int x, int y) {
            switch (step) {
                case PLUS: return x + y;
                case LESS_BY: return x - y;
                case TIMES: return x * y;
                case MODULO: return y == 0 ? 0 : x % y;
                case BELOW_IT: return bit(x < y);
                case SAME: return bit(x == y);
                case BOTH: return bit(x != 0 && y != 0);
                default: return bit(x != 0 || y != 0);
            }
        }

        private static int bit(boolean is) {
            return is ? 1 : 0;
        }
    }

    /** Holds the tape and reads a text from it; what is open is carried down, and a fault stops all that waits for tokens. */
    private static final class Reader {
        private static final int STOPPED = 0, END = 1, NUMBER = 2, NAME = 3, FITS = 4, OR = 5, AND = 6, NOT = 7;
        private static final int OPEN = 5, DIGITS = 4;

        private final char[] tape = new char[TAPE];
        final int[] code = new int[TAPE];
        int size = 0;
        int codeSize = 0;
        private int next = 0;
        private int place = 0;
        /** One of the above, or the sign itself. */
        private int token = STOPPED;
        private int number = 0;
        private int fault = NONE;

        boolean take(int letter) {
            if (size >= TAPE) {
                return false;
            }
            tape[size] = (char) letter;
            size++;
            return true;
        }

        /** The place of the fault, or NONE; the tape is empty then. */
        int read() {
            next = 0;
            codeSize = 0;
            fault = NONE;
            step();
            expect(FITS);
            readEither(0);
            expect(';');
            expect(END);
            size = 0;
            return fault;
        }

        private void expect(int wanted) {
            if (token != wanted) {
                fail();
            } else if (token != END) {
                step();
            }
        }

        private void fail() {
            if (fault == NONE) {
                fault = place;
            }
            token = STOPPED;
        }

        private void emit(int doing, int which) {
            if (codeSize < TAPE) {
                code[codeSize] = doing + (which << Text.SHIFT);
                codeSize++;
            }
        }

        private void emitAll(int doing, int times) {
            for (int i = 0; i < times; i++) {
                emit(doing, 0);
            }
        }

        private void readEither(int open) {
            readBoth(open);
            for (int turn = 0; turn < TAPE && token == OR; turn++) {
                step();
                readBoth(open);
                emit(Text.EITHER, 0);
            }
        }

        private void readBoth(int open) {
            readDenied(open);
            for (int turn = 0; turn < TAPE && token == AND; turn++) {
                step();
                readDenied(open);
                emit(Text.BOTH, 0);
            }
        }

        private void readDenied(int open) {
            int nots = 0;
            while (token == NOT && open + nots < OPEN) {
                step();
                nots++;
            }
            readCompared(open + nots);
            emitAll(Text.DENY, nots);
        }

        private void readCompared(int open) {
            readSum(open);
            if (token == '<' || token == '=') {
                int doing = token == '<' ? Text.BELOW_IT : Text.SAME;
                step();
                readSum(open);
                emit(doing, 0);
            }
        }

        private void readSum(int open) {
            readTerm(open);
            for (int turn = 0; turn < TAPE && (token == '+' || token == '-'); turn++) {
                int doing = token == '+' ? Text.PLUS : Text.LESS_BY;
                step();
                readTerm(open);
                emit(doing, 0);
            }
        }

        private void readTerm(int open) {
            readOne(open);
            for (int turn = 0; turn < TAPE && (token == '*' || token == '%'); turn++) {
                int doing = token == '*' ? Text.TIMES : Text.MODULO;
                step();
                readOne(open);
                emit(doing, 0);
            }
        }

        private void readOne(int open) {
            int minuses = 0;
            while (token == '-' && open + minuses < OPEN) {
                step();
                minuses++;
            }
            readPlain(open + minuses);
            emitAll(Text.MINUS, minuses);
        }

        private void readPlain(int open) {
            if (token == NUMBER || token == NAME) {
                emit(token == NUMBER ? Text.NUMBER : Text.NAME, number);
                step();
            } else if (token == '(' && open < OPEN) {
                step();
                readEither(open + 1);
                expect(')');
            } else {
                fail();
            }
        }

        /** Goes on to the next token; one that is none at all is a fault wherever it stands. */
        private void step() {
            while (next < size && (tape[next] == 32 || tape[next] == 10)) {
                next++;
            }
            place = next;
            if (next >= size) {
                token = END;
            } else if (isLetter(next)) {
                stepWord();
            } else if (isDigit(next)) {
                stepNumber();
            } else {
                token = tape[next];
                next++;
                if (!isSign((char) token)) {
                    fail();
                }
            }
        }

        private boolean isLetter(int i) {
            return i < size && tape[i] >= 'a' && tape[i] <= 'z';
        }

        private boolean isDigit(int i) {
            return i < size && tape[i] >= '0' && tape[i] <= '9';
        }

        private static boolean isSign(char c) {
            return "();+-*%<=".indexOf(c) >= 0;
        }

        private void stepNumber() {
            token = NUMBER;
            number = 0;
            while (next < size && isDigit(next)) {
                number = number * 10 + (tape[next] - '0');
                next++;
            }
            if (next - place > DIGITS) {
                fail();
            }
        }

        private void stepWord() {
            while (next < size && isLetter(next)) {
                next++;
            }
            number = nameOf();
            token = number != NONE ? NAME : isWord("fits") ? FITS : isWord("or") ? OR
                : isWord("and") ? AND : isWord("not") ? NOT : STOPPED;
            if (token == STOPPED) {
                fail();
            }
        }

        private int nameOf() {
            if (next - place == 1 && tape[place] <= 'f') {
                return tape[place] - 'a';
            }
            return isWord("row") ? Text.ROW_NAME : isWord("from") ? Text.FROM_NAME
                : isWord("copies") ? Text.COPIES_NAME : NONE;
        }

        private boolean isWord(String word) {
            if (next - place != word.length()) {
                return false;
            }
            for (int i = 0; i < word.length(); i++) {
                if (tape[place + i] != word.charAt(i)) {
                    return false;
                }
            }
            return true;
        }
    }

    /** Which relations of a query are KEPT, and the tree of these. */
    private static final class Tree {
        final int[] parent = new int[RELATIONS];
        final int[] kids = new int[RELATIONS];
        /** As they are taken out, the root last: children stand ahead of their parents. */
        final int[] order = new int[RELATIONS];
        private final int[] attributes = new int[RELATIONS];
        int steps = 0;
        int root = NONE;
        int kept = 0;
        int checks = 0;

        void grow(Relation[] relations, int query) {
            kept = 0;
            checks = 0;
            for (int r = 0; r < RELATIONS; r++) {
                attributes[r] = relations[r].attributes;
                if (isIn(query, r)) {
                    boolean stands = plant(kept | 1 << r);
                    kept |= stands ? 1 << r : 0;
                    checks |= stands ? 0 : 1 << r;
                }
            }
            plant(kept);
        }

        private boolean plant(int set) {
            Arrays.fill(parent, NONE);
            Arrays.fill(kids, 0);
            steps = 0;
            int left = set;
            for (int turn = 1; turn < RELATIONS && Integer.bitCount(left) > 1; turn++) {
                int ear = firstEar(left);
                if (ear == NONE) {
                    return false;
                }
                parent[ear] = stemOf(left, ear);
                kids[parent[ear]] |= 1 << ear;
                takeOut(ear);
                left &= ~(1 << ear);
            }
            root = NONE;
            for (int r = 0; r < RELATIONS && root == NONE; r++) {
                root = isIn(left, r) ? r : NONE;
            }
            takeOut(root);
            return true;
        }

        private void takeOut(int r) {
            if (r != NONE && steps < RELATIONS) {
                order[steps] = r;
                steps++;
            }
        }

        private int firstEar(int set) {
            for (int r = 0; r < RELATIONS; r++) {
                if (isIn(set, r) && stemOf(set, r) != NONE) {
                    return r;
                }
            }
            return NONE;
        }

        /** The first of a set of which one of it is an ear, or NONE. */
        private int stemOf(int set, int one) {
            int others = 0;
            for (int r = 0; r < RELATIONS; r++) {
                others |= r != one && (set >>> r & 1) == 1 ? attributes[r] : 0;
            }
            int shared = attributes[one] & others;
            for (int r = 0; r < RELATIONS; r++) {
                if (r != one && (set >>> r & 1) == 1 && (shared & ~attributes[r]) == 0) {
                    return r;
                }
            }
            return NONE;
        }
    }

    /** A query told by a rule: weights, bounds and space; its positions and draws; how often its answers count. */
    private static final class Join {
        private static final int TRIES = 20;

        final Tree tree = new Tree();
        final long[] weight = new long[RELATIONS * ROWS];
        final long[] bound = new long[RELATIONS];
        /** Of a row of one that is KEPT, by children, the sum of the weights that match it. */
        private final long[] under = new long[RELATIONS * ROWS * RELATIONS];
        /** How often answers that have a row count; told by tally alone. */
        final long[] use = new long[RELATIONS * ROWS];
        boolean great = false;
        long space = 0;
        /** How many positions the last draw took. */
        int draws = 0;
        private final Bits bits = new Bits();
        private final int[] passing = new int[RELATIONS];
        private final int[] pick = new int[RELATIONS];
        /** What is led into a relation that is KEPT, the index of a check. */
        private final long[] led = new long[RELATIONS];
        private Relation[] relations = null;
        private int query = 0;
        private boolean tallied = false;
        private long count = 0;
        /** The values of the rows that stand in the answer, and of which attributes. */
        private int stands = 0;
        private int spread = 0;

        void tell(Relation[] all, Text rule, int set) {
            relations = all;
            query = set;
            great = false;
            tallied = false;
            tree.grow(all, set);
            for (int r = 0; r < RELATIONS; r++) {
                passing[r] = isIn(set, r) ? all[r].passing(rule, r) : 0;
            }
            Arrays.fill(weight, 0);
            for (int i = 0; i < tree.steps; i++) {
                weigh(tree.order[i]);
            }
            space = tree.root == NONE ? 0 : sumOf(tree.root, 0, 0);
            boundChecks();
        }

        /** Whether there is a query and it is not GREAT. */
        boolean isTold() {
            return query != 0 && !great;
        }

        private long plus(long a, long b) {
            great = great || a > MOST - b;
            return great ? 0 : a + b;
        }

        private long times(long a, long b) {
            great = great || b > 0 && a > MOST / b;
            return great ? 0 : a * b;
        }

        private void weigh(int r) {
            for (int row = 0; row < relations[r].size; row++) {
                if (isIn(passing[r], row)) {
                    long product = relations[r].worthOf(row);
                    for (int child = 0; child < RELATIONS; child++) {
                        if (isIn(tree.kids[r], child)) {
                            long sum = sumOf(child, relations[r].cells[row], relations[r].spread);
                            under[(r * ROWS + row) * RELATIONS + child] = sum;
                            product = times(product, sum);
                        }
                    }
                    weight[r * ROWS + row] = product;
                }
            }
        }

        /** The sum of weights of a relation's rows that match what is given. */
        private long sumOf(int r, int given, int givenSpread) {
            long sum = 0;
            for (int row = 0; row < relations[r].size; row++) {
                if (relations[r].matches(row, given, givenSpread)) {
                    sum = plus(sum, weight[r * ROWS + row]);
                }
            }
            return sum;
        }

        private void boundChecks() {
            int seen = 0;
            for (int r = 0; r < RELATIONS; r++) {
                seen |= isIn(tree.kept, r) ? relations[r].spread : 0;
            }
            for (int r = 0; r < RELATIONS; r++) {
                bound[r] = 0;
                if (isIn(tree.checks, r)) {
                    bound[r] = greatestHeap(r, seen);
                    space = times(space, bound[r]);
                    seen |= relations[r].spread;
                }
            }
        }

        private long greatestHeap(int r, int seen) {
            long greatest = 0;
            for (int row = 0; row < relations[r].size; row++) {
                greatest = Math.max(greatest, worthsAhead(r, ROWS, relations[r].cells[row], seen));
            }
            return greatest;
        }

        /** The worths of a relation's passing rows ahead of one that match what is given. */
        private long worthsAhead(int r, int end, int given, int givenSpread) {
            long sum = 0;
            for (int row = 0; row < relations[r].size && row < end; row++) {
                if (isIn(passing[r], row) && relations[r].matches(row, given, givenSpread)) {
                    sum += relations[r].worthOf(row);
                }
            }
            return sum;
        }

        /** Whether a position below the space is GOOD; its answer stands then. */
        boolean lead(long position) {
            long p = position;
            for (int r = RELATIONS - 1; r >= 0; r--) {
                if (isIn(tree.checks, r) && bound[r] > 0) {
                    led[r] = p % bound[r];
                    p = p / bound[r];
                }
            }
            stands = 0;
            spread = 0;
            if (tree.root != NONE) {
                led[tree.root] = p;
            }
            for (int i = tree.steps - 1; i >= 0; i--) {
                if (!leadInto(tree.order[i])) {
                    return false;
                }
                leadChildren(tree.order[i]);
            }
            for (int r = 0; r < RELATIONS; r++) {
                if (isIn(tree.checks, r) && !check(r)) {
                    return false;
                }
            }
            return true;
        }

        /** What is left of what was led in stays. Of a tree, matching all that stands is matching the parent's row. */
        private boolean leadInto(int r) {
            long p = led[r];
            for (int row = 0; row < relations[r].size; row++) {
                if (relations[r].matches(row, stands, spread)) {
                    long w = weight[r * ROWS + row];
                    if (p < w) {
                        led[r] = p;
                        seat(r, row);
                        return true;
                    }
                    p -= w;
                }
            }
            return false;
        }

        private void leadChildren(int r) {
            int row = pick[r];
            long p = led[r];
            for (int child = RELATIONS - 1; child >= 0; child--) {
                long sum = isIn(tree.kids[r], child) ? under[(r * ROWS + row) * RELATIONS + child] : 0;
                if (sum > 0) {
                    led[child] = p % sum;
                    p = p / sum;
                }
            }
        }

        private boolean check(int r) {
            long p = led[r];
            for (int row = 0; row < relations[r].size; row++) {
                if (isIn(passing[r], row) && relations[r].matches(row, stands, spread)) {
                    long w = relations[r].worthOf(row);
                    if (p < w) {
                        seat(r, row);
                        return true;
                    }
                    p -= w;
                }
            }
            return false;
        }

        private void seat(int r, int row) {
            pick[r] = row;
            stands |= relations[r].cells[row];
            spread |= relations[r].spread;
        }

        int digits() {
            int all = 0;
            for (int r = 0; r < RELATIONS; r++) {
                all = isIn(query, r) ? all * 10 + pick[r] + 1 : all;
            }
            return all;
        }

        int answerValue(int attribute) {
            boolean has = attribute >= 0 && attribute < ATTRIBUTES && (spread >>> 4 * attribute & 15) != 0;
            return has ? stands >>> 4 * attribute & 15 : NONE;
        }

        /** The least position whose answer has these rows: each part of it is the least that leads to its row. */
        long placeOf(int digits) {
            if (!isAnswer(digits)) {
                return NO;
            }
            for (int i = 0; i < tree.steps; i++) {
                int r = tree.order[i];
                led[r] = weightsAhead(r) + leastUnder(r);
            }
            long p = tree.root == NONE ? 0 : led[tree.root];
            stands = 0;
            spread = 0;
            for (int r = 0; r < RELATIONS; r++) {
                if (isIn(tree.kept, r)) {
                    seat(r, pick[r]);
                }
            }
            for (int r = 0; r < RELATIONS; r++) {
                if (isIn(tree.checks, r)) {
                    p = p * bound[r] + worthsAhead(r, pick[r], stands, spread);
                    seat(r, pick[r]);
                }
            }
            return p;
        }

        /** Picks rows by digits, the last relation's first; whether they pass and match. */
        private boolean isAnswer(int digits) {
            int rest = digits;
            stands = 0;
            spread = 0;
            for (int r = RELATIONS - 1; r >= 0; r--) {
                if (isIn(query, r)) {
                    int row = rest % 10 - 1;
                    rest = rest / 10;
                    if (!isIn(passing[r], row) || !relations[r].matches(row, stands, spread)) {
                        return false;
                    }
                    seat(r, row);
                }
            }
            return rest == 0;
        }

        private long weightsAhead(int r) {
            int up = tree.parent[r];
            int given = up == NONE ? 0 : relations[up].cells[pick[up]];
            int givenSpread = up == NONE ? 0 : relations[up].spread;
            long sum = 0;
            for (int row = 0; row < pick[r]; row++) {
                sum += relations[r].matches(row, given, givenSpread) ? weight[r * ROWS + row] : 0;
            }
            return sum;
        }

        private long leastUnder(int r) {
            long p = 0;
            for (int child = 0; child < RELATIONS; child++) {
                if (isIn(tree.kids[r], child)) {
                    p = p * under[(r * ROWS + pick[r]) * RELATIONS + child] + led[child];
                }
            }
            return p;
        }

        /** The digits of the answer that a seed draws, or NONE. */
        int drawn(int seed) {
            bits.begin(seed);
            draws = 0;
            for (int turn = 0; turn < TRIES && space > 0; turn++) {
                draws++;
                if (lead(bits.below(space))) {
                    return digits();
                }
            }
            return NONE;
        }

        /** COUNT, of a query that is not GREAT: it is at most the space then, so nothing wraps that counts. */
        long tally() {
            if (!tallied) {
                Arrays.fill(use, 0);
                count = query == 0 ? 0 : walk(0, 0, 0, 1);
                tallied = true;
            }
            return count;
        }

        /** How often the answers count that go on from what is given by rows of relations from one on. */
        private long walk(int from, int given, int givenSpread, long often) {
            for (int r = from; r < RELATIONS; r++) {
                if (isIn(query, r)) {
                    return walkRows(r, given, givenSpread, often);
                }
            }
            return often;
        }

        private long walkRows(int r, int given, int givenSpread, long often) {
            Relation of = relations[r];
            long sum = 0;
            for (int row = 0; row < of.size; row++) {
                if (isIn(passing[r], row) && of.matches(row, given, givenSpread)) {
                    long more = walk(r + 1, given | of.cells[row], givenSpread | of.spread, often * of.worthOf(row));
                    use[r * ROWS + row] += more;
                    sum += more;
                }
            }
            return sum;
        }

        /** Each answer has one row of any relation of the query, so the first that has the attribute tells all. */
        long countWith(int attribute, int v) {
            tally();
            long often = 0;
            boolean found = false;
            for (int r = 0; r < RELATIONS && !found; r++) {
                found = isIn(query, r) && isIn(relations[r].attributes, attribute);
                for (int row = 0; found && row < relations[r].size; row++) {
                    boolean has = relations[r].valueAt(relations[r].cells[row], attribute) == v;
                    often += has ? use[r * ROWS + row] : 0;
                }
            }
            return often;
        }

        int unused(int r) {
            tally();
            int set = 0;
            for (int row = 0; row < relations[r].size; row++) {
                set |= isIn(passing[r], row) && use[r * ROWS + row] == 0 ? 1 << row : 0;
            }
            return set;
        }
    }

    /** Bits one behind another from a seed, and numbers of them. */
    private static final class Bits {
        private static final int TRIES = 30, LONG = 63;

        private int z = 0;

        void begin(int seed) {
            z = seed;
        }

        private int bit() {
            z = z * 1103515245 + 12345;
            return z >>> 16 & 1;
        }

        /** A number below n, which is 1 or more. */
        long below(long n) {
            int size = 0;
            while (size < LONG && n - 1 >>> size != 0) {
                size++;
            }
            long number = 0;
            for (int turn = 0; turn < TRIES; turn++) {
                number = 0;
                for (int i = 0; i < size; i++) {
                    number = number << 1 | bit();
                }
                if (number < n) {
                    return number;
                }
            }
            return n > 0 ? number % n : 0;
        }
    }

    /** A shuffle of a space too great to be laid out: only places where something else stands are kept. */
    private static final class Shuffle {
        static final int PLACES = 8;

        private final Bits bits = new Bits();
        private final long[] place = new long[PLACES];
        private final long[] standing = new long[PLACES];

        /** What stands at place i once that place has been changed. */
        long placed(int seed, long space, int i) {
            bits.begin(seed);
            long placed = NO;
            for (int step = 0; step <= i && step < PLACES; step++) {
                long other = step + bits.below(space - step);
                placed = standingAt(other, step);
                standing[step] = standingAt(step, step);
                place[step] = other;
            }
            return placed;
        }

        private long standingAt(long at, int known) {
            for (int k = known - 1; k >= 0; k--) {
                if (place[k] == at) {
                    return standing[k];
                }
            }
            return at;
        }
    }

    /** A row of numbers of one sort, or missing; each item is held as its sort would hold it. */
    private static final class Sheet {
        final long[] items = new long[ITEMS];
        int sort = MISSING;
        int size = 0;

        void become(int ofSort, int n) {
            sort = ofSort;
            size = n;
            Arrays.fill(items, 0);
        }

        boolean has(int i) {
            return i >= 0 && i < size;
        }

        boolean hasRun(int i, int n) {
            return i >= 0 && n >= 0 && i <= size && n <= size - i;
        }

        void lay(int i, long v) {
            items[i] = sort == LONGS ? v : sort == INTS ? (int) v : (byte) v;
        }
    }

    /** What image keeps. Relations and rows never change their values, so those that go need not be kept. */
    private static final class Image {
        boolean there = false;
        int made = 0;
        int asked = 0;
        int rule = 0;
        private final int[] sizes = new int[RELATIONS];
        private final int[] lives = new int[RELATIONS];
        private final int[] copies = new int[RELATIONS * ROWS];

        void keep(Relation[] relations, int relationsMade, int query, int byRule) {
            there = true;
            made = relationsMade;
            asked = query;
            rule = byRule;
            for (int r = 0; r < RELATIONS; r++) {
                sizes[r] = relations[r].size;
                lives[r] = relations[r].live;
                System.arraycopy(relations[r].copies, 0, copies, r * ROWS, ROWS);
            }
        }

        void layBack(Relation[] relations) {
            for (int r = 0; r < RELATIONS; r++) {
                relations[r].size = sizes[r];
                relations[r].live = lives[r];
                System.arraycopy(copies, r * ROWS, relations[r].copies, 0, ROWS);
            }
        }
    }
}
