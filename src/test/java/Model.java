import java.math.BigInteger;
import java.util.ArrayList;
import java.util.Arrays;
import java.util.HashMap;
import java.util.List;
import java.util.Map;
import java.util.TreeMap;

/**
 * The document again, word by word and without care for speed: joins are written down, sums are BigIntegers,
 * a shuffle is a map of all places that moved. RandomRunsTest lays it beside JoinDraws.
 */
final class Model {
    static final int NONE = -1, BAD = -2, STATE = -3, FULL = -4, GREAT = -5;
    static final long NO = -4611686018427387904L;
    static final BigInteger LONGEST = BigInteger.valueOf(Long.MAX_VALUE);
    static final String[] UNDER = {"BAG", "SET BAG", "LOG BAG", "KEYED SET BAG", "CAPPED LOG BAG", "DOUBLED KEYED SET BAG"};
    static final String[] KIND = {"BAG", "SET", "LOG", "KEYED", "CAPPED", "DOUBLED"};

    static final class Row {
        final Map<Integer, Integer> values = new TreeMap<>();
        int number, copies;
        boolean live = true;
    }

    static final class Rel {
        int number, kind;
        final List<Integer> attributes = new ArrayList<>();
        final List<Row> rows = new ArrayList<>();

        boolean under(String kindName) {
            return Arrays.asList(UNDER[kind].split(" ")).contains(kindName);
        }

        boolean takes(Row fresh) {
            for (Row old : rows) {
                if (!old.live || old == fresh) {
                    continue;
                }
                if (under("SET") && old.values.equals(fresh.values)) {
                    return false;
                }
                if (under("KEYED") && old.values.get(attributes.get(0)).equals(fresh.values.get(attributes.get(0)))) {
                    return false;
                }
            }
            return true;
        }

        BigInteger worth(Row row) {
            long w = under("CAPPED") ? Math.min(9, row.copies) : under("DOUBLED") ? 2L * row.copies : row.copies;
            return BigInteger.valueOf(w);
        }

        int bits() {
            int bits = 0;
            for (int a : attributes) {
                bits |= 1 << a;
            }
            return bits;
        }
    }

    static boolean match(Row a, Row b) {
        for (int attribute : a.values.keySet()) {
            if (b.values.containsKey(attribute) && !b.values.get(attribute).equals(a.values.get(attribute))) {
                return false;
            }
        }
        return true;
    }

    static final class TooGreat extends RuntimeException {
        private static final long serialVersionUID = 1;
    }

    static BigInteger small(BigInteger n) {
        if (n.compareTo(LONGEST) > 0) {
            throw new TooGreat();
        }
        return n;
    }

    /** A query by a rule. */
    final class Joined {
        final List<Rel> of = new ArrayList<>();
        final List<Rel> kept = new ArrayList<>();
        final List<Rel> checks = new ArrayList<>();
        Map<Rel, Rel> parent = new HashMap<>();
        Rel root;
        boolean great = false;
        final ModelText byRule;
        final Map<Row, BigInteger> weight = new HashMap<>();
        final Map<Rel, BigInteger> bound = new HashMap<>();
        BigInteger space, count;
        final List<Map<Rel, Row>> answers = new ArrayList<>();

        Joined(int query, ModelText byRule) {
            this.byRule = byRule;
            for (Rel r : relations) {
                if ((query >> r.number & 1) == 1) {
                    of.add(r);
                }
            }
            for (Rel r : of) {
                List<Rel> more = new ArrayList<>(kept);
                more.add(r);
                (tree(more) != null ? kept : checks).add(r);
            }
            parent = tree(kept);
            for (Rel r : kept) {
                if (!parent.containsKey(r)) {
                    root = r;
                }
            }
            try {
                weigh();
            } catch (TooGreat e) {
                great = true;
            }
            if (!great) {
                writeDown(0, new HashMap<>());
                count = countOf(answers);
            }
        }

        Map<Rel, Rel> tree(List<Rel> set) {
            List<Rel> left = new ArrayList<>(set);
            Map<Rel, Rel> parents = new HashMap<>();
            while (left.size() > 1) {
                Rel ear = null;
                for (Rel one : left) {
                    for (Rel other : left) {
                        if (ear == null && one != other && isEar(one, other, left)) {
                            ear = one;
                            parents.put(one, other);
                        }
                    }
                }
                if (ear == null) {
                    return null;
                }
                left.remove(ear);
            }
            return parents;
        }

        boolean isEar(Rel one, Rel other, List<Rel> set) {
            for (int a : one.attributes) {
                boolean shared = false;
                for (Rel any : set) {
                    shared |= any != one && any.attributes.contains(a);
                }
                if (shared && !other.attributes.contains(a)) {
                    return false;
                }
            }
            return true;
        }

        List<Rel> children(Rel r) {
            List<Rel> found = new ArrayList<>();
            for (Rel one : kept) {
                if (parent.get(one) == r) {
                    found.add(one);
                }
            }
            return found;
        }

        boolean passes(Rel r, Row row) {
            return row.live && byRule.tell(r, row) != 0;
        }

        BigInteger weightOf(Rel r, Row row) {
            if (weight.containsKey(row)) {
                return weight.get(row);
            }
            BigInteger w = BigInteger.ZERO;
            if (passes(r, row)) {
                w = r.worth(row);
                for (Rel child : children(r)) {
                    w = small(w.multiply(sum(child, row)));
                }
            }
            weight.put(row, w);
            return w;
        }

        BigInteger sum(Rel child, Row of) {
            BigInteger sum = BigInteger.ZERO;
            for (Row row : child.rows) {
                if (of == null || match(row, of)) {
                    sum = small(sum.add(weightOf(child, row)));
                }
            }
            return sum;
        }

        void weigh() {
            for (Rel r : kept) {
                for (Row row : r.rows) {
                    weightOf(r, row);
                }
            }
            space = root == null ? BigInteger.ZERO : sum(root, null);
            for (Rel c : checks) {
                Map<String, BigInteger> heaps = new HashMap<>();
                BigInteger most = BigInteger.ZERO;
                for (Row row : c.rows) {
                    if (passes(c, row)) {
                        StringBuilder heap = new StringBuilder();
                        for (int a : c.attributes) {
                            boolean seen = false;
                            for (Rel r : of) {
                                boolean ahead = kept.contains(r) || checks.contains(r) && r.number < c.number;
                                seen |= ahead && r.attributes.contains(a);
                            }
                            heap.append(seen ? "" + row.values.get(a) : "").append(',');
                        }
                        heaps.merge(heap.toString(), c.worth(row), BigInteger::add);
                        most = most.max(heaps.get(heap.toString()));
                    }
                }
                bound.put(c, most);
                space = small(space.multiply(most));
            }
        }

        void writeDown(int nth, Map<Rel, Row> soFar) {
            if (nth == of.size()) {
                answers.add(new HashMap<>(soFar));
                return;
            }
            Rel r = of.get(nth);
            for (Row row : r.rows) {
                boolean fits = passes(r, row);
                for (Row other : soFar.values()) {
                    fits &= match(row, other);
                }
                if (fits) {
                    soFar.put(r, row);
                    writeDown(nth + 1, soFar);
                    soFar.remove(r);
                }
            }
        }

        BigInteger times(Map<Rel, Row> answer) {
            BigInteger times = BigInteger.ONE;
            for (Rel r : answer.keySet()) {
                times = times.multiply(r.worth(answer.get(r)));
            }
            return times;
        }

        BigInteger countOf(List<Map<Rel, Row>> some) {
            BigInteger sum = BigInteger.ZERO;
            for (Map<Rel, Row> answer : some) {
                sum = sum.add(times(answer));
            }
            return sum;
        }

        List<Map<Rel, Row>> having(Rel r, Row row) {
            List<Map<Rel, Row>> some = new ArrayList<>();
            for (Map<Rel, Row> answer : answers) {
                if (answer.get(r) == row) {
                    some.add(answer);
                }
            }
            return some;
        }

        List<Map<Rel, Row>> having(int attribute, int v) {
            List<Map<Rel, Row>> some = new ArrayList<>();
            for (Map<Rel, Row> answer : answers) {
                if (value(answer, attribute) == v) {
                    some.add(answer);
                }
            }
            return some;
        }

        int value(Map<Rel, Row> answer, int attribute) {
            for (Row row : answer.values()) {
                if (row.values.containsKey(attribute)) {
                    return row.values.get(attribute);
                }
            }
            return NONE;
        }

        int digits(Map<Rel, Row> answer) {
            int d = 0;
            for (Rel r : of) {
                d = d * 10 + answer.get(r).number + 1;
            }
            return d;
        }

        /** The answer, or null if the position is not GOOD. */
        Map<Rel, Row> led(BigInteger position) {
            Map<Rel, BigInteger> index = new HashMap<>();
            BigInteger p = position;
            for (int i = checks.size() - 1; i >= 0; i--) {
                BigInteger[] parts = p.divideAndRemainder(bound.get(checks.get(i)));
                index.put(checks.get(i), parts[1]);
                p = parts[0];
            }
            Map<Rel, Row> answer = new HashMap<>();
            lead(root, null, p, answer);
            for (Rel c : checks) {
                Row found = null;
                BigInteger sum = BigInteger.ZERO;
                for (Row row : c.rows) {
                    boolean fits = passes(c, row);
                    for (Row other : answer.values()) {
                        fits &= match(row, other);
                    }
                    if (fits && found == null) {
                        sum = sum.add(c.worth(row));
                        found = sum.compareTo(index.get(c)) > 0 ? row : null;
                    }
                }
                if (found == null) {
                    return null;
                }
                answer.put(c, found);
            }
            return answer;
        }

        void lead(Rel r, Row parentRow, BigInteger position, Map<Rel, Row> answer) {
            BigInteger ahead = BigInteger.ZERO;
            for (Row row : r.rows) {
                if (parentRow != null && !match(row, parentRow)) {
                    continue;
                }
                BigInteger with = ahead.add(weight.get(row));
                if (with.compareTo(position) > 0) {
                    answer.put(r, row);
                    BigInteger p = position.subtract(ahead);
                    List<Rel> children = children(r);
                    for (int i = children.size() - 1; i >= 0; i--) {
                        BigInteger[] parts = p.divideAndRemainder(sum(children.get(i), row));
                        lead(children.get(i), row, parts[1], answer);
                        p = parts[0];
                    }
                    return;
                }
                ahead = with;
            }
            throw new IllegalStateException("a position that leads nowhere");
        }

        int drawn;

        Map<Rel, Row> draw(int seed) {
            ModelBits bits = new ModelBits(seed);
            drawn = 0;
            while (drawn < 20 && space.signum() > 0) {
                drawn++;
                Map<Rel, Row> answer = led(bits.below(space));
                if (answer != null) {
                    return answer;
                }
            }
            return null;
        }

        int drawDigits(int seed) {
            Map<Rel, Row> answer = draw(seed);
            return answer == null ? NONE : digits(answer);
        }
    }

    static final class ModelBits {
        int z;

        ModelBits(int seed) {
            z = seed;
        }

        BigInteger below(BigInteger n) {
            int size = n.subtract(BigInteger.ONE).bitLength();
            BigInteger last = BigInteger.ZERO;
            for (int turn = 1; turn <= 30; turn++) {
                StringBuilder digits = new StringBuilder("0");
                for (int i = 0; i < size; i++) {
                    z = (int) ((long) z * 1103515245L + 12345L);
                    digits.append((z >>> 16) % 2);
                }
                last = new BigInteger(digits.toString(), 2);
                if (last.compareTo(n) < 0) {
                    return last;
                }
            }
            return last.mod(n);
        }
    }

    // ---- the state

    List<Rel> relations = new ArrayList<>();
    final List<ModelText> texts = new ArrayList<>(List.of(new ModelText("fits 1 ;")));
    StringBuilder tape = new StringBuilder();
    int rule = 0, query = 0;
    final long[][] sheets = new long[4][];
    final int[] sorts = {-1, -1, -1, -1};
    List<Integer> slate = new ArrayList<>();
    List<Rel> imageRelations = null;
    int imageRule, imageQuery;

    Joined join() {
        return new Joined(query, texts.get(rule));
    }

    Row row(int relation, int row) {
        if (relation < 0 || relation >= relations.size() || row < 0 || row >= relations.get(relation).rows.size()) {
            return null;
        }
        return relations.get(relation).rows.get(row);
    }

    int live(Rel r) {
        int n = 0;
        for (Row row : r.rows) {
            n += row.live ? 1 : 0;
        }
        return n;
    }

    public int relation(int kind, int attributes) {
        int size = Integer.bitCount(attributes);
        if (kind < 0 || kind > 5 || attributes < 0 || attributes > 63 || size < 1 || size > 3) {
            return BAD;
        }
        if (relations.size() == 4) {
            return FULL;
        }
        Rel r = new Rel();
        r.number = relations.size();
        r.kind = kind;
        for (int a = 0; a < 6; a++) {
            if ((attributes >> a & 1) == 1) {
                r.attributes.add(a);
            }
        }
        relations.add(r);
        return r.number;
    }

    public int row(int relation, int x, int y, int z, int copies) {
        if (relation < 0 || relation >= relations.size() || copies < 1 || copies > 2000000000) {
            return BAD;
        }
        Rel r = relations.get(relation);
        Row fresh = new Row();
        int[] given = {x, y, z};
        for (int i = 0; i < r.attributes.size(); i++) {
            if (given[i] < 0 || given[i] > 9) {
                return BAD;
            }
            fresh.values.put(r.attributes.get(i), given[i]);
        }
        if (!r.takes(fresh)) {
            return STATE;
        }
        if (r.rows.size() == 8) {
            return FULL;
        }
        fresh.number = r.rows.size();
        fresh.copies = copies;
        r.rows.add(fresh);
        return fresh.number;
    }

    public int remove(int relation, int row) {
        Row it = row(relation, row);
        if (it == null) {
            return BAD;
        }
        if (!it.live || relations.get(relation).under("LOG")) {
            return STATE;
        }
        it.live = false;
        return live(relations.get(relation));
    }

    public int restore(int relation, int row) {
        Row it = row(relation, row);
        if (it == null) {
            return BAD;
        }
        if (it.live || !relations.get(relation).takes(it)) {
            return STATE;
        }
        it.live = true;
        return live(relations.get(relation));
    }

    public int copies(int relation, int row, int n) {
        Row it = row(relation, row);
        if (it == null || n < 1 || n > 2000000000) {
            return BAD;
        }
        int before = it.copies;
        it.copies = n;
        return before;
    }

    public int told(int relation, int row, int what) {
        Row it = row(relation, row);
        if (it == null || what < 0 || what > 5) {
            return BAD;
        }
        Rel r = relations.get(relation);
        if (what < 3) {
            return what < r.attributes.size() ? it.values.get(r.attributes.get(what)) : NONE;
        }
        return what == 3 ? it.copies : what == 4 ? (it.live ? 1 : 0) : it.live && texts.get(rule).tell(r, it) != 0 ? 1 : 0;
    }

    public long worth(int relation, int row) {
        Row it = row(relation, row);
        return it == null ? NO : relations.get(relation).worth(it).longValueExact();
    }

    public int about(int relation, int what) {
        if (relation < 0 || relation >= relations.size() || what < 0 || what > 6) {
            return BAD;
        }
        Rel r = relations.get(relation);
        int liveBits = 0;
        int passBits = 0;
        for (Row row : r.rows) {
            liveBits |= row.live ? 1 << row.number : 0;
            passBits |= row.live && texts.get(rule).tell(r, row) != 0 ? 1 << row.number : 0;
        }
        Joined join = join();
        if (what == 4) {
            if (!join.of.contains(r)) {
                return -7;
            }
            return join.checks.contains(r) ? -6 : join.root == r ? NONE : join.parent.get(r).number;
        }
        return what == 0 ? r.kind : what == 1 ? r.bits() : what == 2 ? r.rows.size() : what == 3 ? liveBits
            : what == 5 ? bits(join.children(r)) : passBits;
    }

    static int bits(List<Rel> some) {
        int bits = 0;
        for (Rel r : some) {
            bits |= 1 << r.number;
        }
        return bits;
    }

    public int query(int set) {
        for (int i = 0; i < 32; i++) {
            if ((set >>> i & 1) == 1 && i >= relations.size()) {
                return BAD;
            }
        }
        query = set;
        return Integer.bitCount(set);
    }

    public int shape(int what) {
        if (what < 0 || what > 4) {
            return BAD;
        }
        if (query == 0) {
            return STATE;
        }
        Joined join = join();
        return what == 0 ? bits(join.kept) : what == 1 ? bits(join.checks) : what == 2 ? join.root.number
            : what == 3 ? (join.great ? 1 : 0) : attributes();
    }

    int attributes() {
        int set = 0;
        for (Rel r : relations) {
            set |= (query >> r.number & 1) == 1 ? r.bits() : 0;
        }
        return set;
    }

    public int feed(int letter) {
        if (letter < 0 || letter > 255) {
            return BAD;
        }
        if (tape.length() == 160) {
            return FULL;
        }
        tape.append((char) letter);
        return tape.length();
    }

    public int text() {
        if (texts.size() == 6) {
            return FULL;
        }
        ModelText read = new ModelText(tape.toString());
        tape = new StringBuilder();
        if (read.fault >= 0) {
            return -100 - read.fault;
        }
        texts.add(read);
        return texts.size() - 1;
    }

    public int force(int text) {
        if (text < 0 || text >= texts.size()) {
            return BAD;
        }
        int before = rule;
        rule = text;
        return before;
    }

    public long weight(int relation, int row) {
        Row it = row(relation, row);
        Joined join = join();
        if (it == null || !join.kept.contains(relations.get(relation)) || join.great) {
            return NO;
        }
        return join.weight.get(it).longValueExact();
    }

    public long bound(int relation) {
        Joined join = join();
        if (relation < 0 || relation >= relations.size() || !join.checks.contains(relations.get(relation)) || join.great) {
            return NO;
        }
        return join.bound.get(relations.get(relation)).longValueExact();
    }

    public long space() {
        Joined join = join();
        return query == 0 || join.great ? NO : join.space.longValueExact();
    }

    public long answers() {
        Joined join = join();
        return query == 0 || join.great ? NO : join.count.longValueExact();
    }

    public int at(long position, int what) {
        if (what < 0 || what > 7) {
            return BAD;
        }
        if (query == 0) {
            return STATE;
        }
        Joined join = join();
        if (join.great) {
            return GREAT;
        }
        if (position < 0 || BigInteger.valueOf(position).compareTo(join.space) >= 0) {
            return BAD;
        }
        Map<Rel, Row> answer = join.led(BigInteger.valueOf(position));
        if (what == 0) {
            return answer == null ? 0 : 1;
        }
        return answer == null ? NONE : what == 1 ? join.digits(answer) : join.value(answer, what - 2);
    }

    /** By trying positions, if there are not too many; else by the answer's being at its place (see RandomRunsTest). */
    public long find(int digits) {
        Joined join = join();
        if (query == 0 || join.great) {
            return NO;
        }
        boolean is = false;
        for (Map<Rel, Row> answer : join.answers) {
            is |= join.digits(answer) == digits;
        }
        if (!is) {
            return NO;
        }
        for (int p = 0; p < MOST_TRIED && BigInteger.valueOf(p).compareTo(join.space) < 0; p++) {
            Map<Rel, Row> answer = join.led(BigInteger.valueOf(p));
            if (answer != null && join.digits(answer) == digits) {
                return p;
            }
        }
        return UNKNOWN;
    }

    static final int MOST_TRIED = 1500;
    static final long UNKNOWN = NO + 1;

    public int draw(int seed, int what) {
        if (what != 0 && what != 1) {
            return BAD;
        }
        if (query == 0) {
            return STATE;
        }
        Joined join = join();
        if (join.great) {
            return GREAT;
        }
        if (join.space.signum() == 0) {
            return STATE;
        }
        int digits = join.drawDigits(seed);
        return what == 0 ? digits : join.drawn;
    }

    public long shuffle(int seed, int n, int i) {
        if (n < 1 || n > 8 || i < 0 || i >= n || query == 0) {
            return NO;
        }
        Joined join = join();
        if (join.great || join.space.compareTo(BigInteger.valueOf(n)) < 0) {
            return NO;
        }
        Map<BigInteger, BigInteger> stands = new HashMap<>();
        ModelBits bits = new ModelBits(seed);
        for (int k = 0; k < n; k++) {
            BigInteger here = BigInteger.valueOf(k);
            BigInteger there = here.add(bits.below(join.space.subtract(here)));
            BigInteger one = stands.getOrDefault(here, here);
            BigInteger other = stands.getOrDefault(there, there);
            stands.put(here, other);
            stands.put(there, one);
        }
        return stands.get(BigInteger.valueOf(i)).longValueExact();
    }

    static long part(BigInteger above, BigInteger below, int part) {
        BigInteger common = above.gcd(below);
        return (part == 0 ? above : below).divide(common).longValueExact();
    }

    public long odds(int relation, int row, int part) {
        Row it = row(relation, row);
        if (it == null || part != 0 && part != 1 || (query >> relation & 1) == 0) {
            return NO;
        }
        Joined join = join();
        if (join.great || join.count.signum() == 0) {
            return NO;
        }
        return part(join.countOf(join.having(relations.get(relation), it)), join.count, part);
    }

    public long values(int attribute, int v) {
        if (attribute < 0 || attribute > 5 || v < 0 || v > 9 || (attributes() >> attribute & 1) == 0) {
            return NO;
        }
        Joined join = join();
        return join.great ? NO : join.countOf(join.having(attribute, v)).longValueExact();
    }

    public int likeliest(int attribute) {
        if (attribute < 0 || attribute > 5) {
            return BAD;
        }
        if ((attributes() >> attribute & 1) == 0) {
            return STATE;
        }
        Joined join = join();
        if (join.great) {
            return GREAT;
        }
        int best = NONE;
        for (int v = 9; v >= 0; v--) {
            BigInteger often = join.countOf(join.having(attribute, v));
            if (often.signum() > 0 && (best == NONE || often.compareTo(join.countOf(join.having(attribute, best))) >= 0)) {
                best = v;
            }
        }
        return best;
    }

    public int dangling(int relation) {
        if (relation < 0 || relation >= relations.size()) {
            return BAD;
        }
        if ((query >> relation & 1) == 0) {
            return STATE;
        }
        Joined join = join();
        if (join.great) {
            return GREAT;
        }
        int bits = 0;
        Rel r = relations.get(relation);
        for (Row row : r.rows) {
            bits |= join.passes(r, row) && join.having(r, row).isEmpty() ? 1 << row.number : 0;
        }
        return bits;
    }

    public long without(int relation, int row) {
        Row it = row(relation, row);
        if (it == null || !it.live || query == 0) {
            return NO;
        }
        it.live = false;
        Joined join = join();
        it.live = true;
        return join.great ? NO : join.count.longValueExact();
    }

    public long key(int what) {
        if (what != 0 && what != 1 || query == 0 || join().great) {
            return NO;
        }
        long best = NO;
        long least = 0;
        for (Rel r : relations) {
            for (Row row : r.rows) {
                if ((query >> r.number & 1) == 1 && row.live) {
                    long left = without(r.number, row.number);
                    if (best == NO || left < least) {
                        best = 8 * r.number + row.number;
                        least = left;
                    }
                }
            }
        }
        return best == NO ? NO : what == 0 ? best : least;
    }

    static final class Wrong extends Exception {
        private static final long serialVersionUID = 1;
        final int answer;

        Wrong(int answer) {
            this.answer = answer;
        }
    }

    final class Trial implements AutoCloseable {
        final Row row;
        final int item;

        Trial(Row row, int item) {
            this.row = row;
            this.item = item;
            row.live = false;
        }

        @Override
        public void close() {
            row.live = true;
            slate.add(item);
        }
    }

    public int strip(int sheet, long r) {
        if (sheet < 0 || sheet > 3 || r < 0) {
            return BAD;
        }
        if (query == 0) {
            return STATE;
        }
        if (sheets[sheet] == null) {
            return -11;
        }
        if (sheets[sheet].length > 12) {
            return BAD;
        }
        slate = new ArrayList<>();
        try {
            return stripFrom(sheets[sheet], 0, r);
        } catch (Wrong e) {
            return e.answer;
        }
    }

    int stripFrom(long[] items, int i, long r) throws Wrong {
        if (i == items.length) {
            return i;
        }
        Row row = items[i] < 0 || items[i] > 31 ? null : row((int) (items[i] / 8), (int) (items[i] % 8));
        if (row == null || !row.live) {
            throw new Wrong(-20 - i);
        }
        try (Trial trial = new Trial(row, (int) items[i])) {
            Joined join = join();
            if (!join.great && join.count.compareTo(BigInteger.valueOf(r)) < 0) {
                throw new Wrong(100 + i + 1);
            }
            return stripFrom(items, i + 1, r);
        }
    }

    public int slate(int i) {
        return i < 0 || i >= slate.size() ? -99 : slate.get(i);
    }

    public long lot(int seed, int m, int attribute, int v, int part) {
        if (m < 1 || m > 20 || part != 0 && part != 1 || attribute < 0 || attribute > 5
            || (attributes() >> attribute & 1) == 0) {
            return NO;
        }
        Joined join = join();
        if (join.great || join.space.signum() == 0) {
            return NO;
        }
        int above = 0;
        for (int k = 0; k < m; k++) {
            Map<Rel, Row> answer = join.draw(seed + k);
            above += answer != null && join.value(answer, attribute) == v ? 1 : 0;
        }
        return part(BigInteger.valueOf(above), BigInteger.valueOf(m), part);
    }

    public int tells(int sheet, int what) {
        if (sheet < 0 || sheet > 3 || what < 0 || what > 2) {
            return BAD;
        }
        if (query == 0) {
            return STATE;
        }
        Joined join = join();
        if (join.great) {
            return GREAT;
        }
        if (sheets[sheet] == null) {
            return -11;
        }
        if (sheets[sheet].length > 12) {
            return BAD;
        }
        if (what == 0) {
            return first(join, sheets[sheet]);
        }
        int bits = 0;
        if (what == 1) {
            for (int t = 0; t < texts.size(); t++) {
                Joined by = new Joined(query, texts.get(t));
                bits |= !by.great && first(by, sheets[sheet]) == NONE ? 1 << t : 0;
            }
            return bits;
        }
        for (int q = 1; q < 16; q++) {
            if (q >> relations.size() == 0) {
                Joined by = new Joined(q, texts.get(rule));
                bits |= !by.great && first(by, sheets[sheet]) == NONE ? 1 << q : 0;
            }
        }
        return bits;
    }

    int first(Joined join, long[] items) {
        for (int i = 0; i < items.length; i++) {
            if (join.drawDigits(i) != items[i]) {
                return i;
            }
        }
        return NONE;
    }

    public int film(int sheet, int n) {
        if (sheet < 0 || sheet > 3 || n < 0 || n > 12) {
            return BAD;
        }
        if (query == 0) {
            return STATE;
        }
        Joined join = join();
        if (join.great) {
            return GREAT;
        }
        sorts[sheet] = 1;
        sheets[sheet] = new long[n];
        for (int i = 0; i < n; i++) {
            sheets[sheet][i] = join.drawDigits(i);
        }
        return n;
    }

    static List<Rel> copyOf(List<Rel> some) {
        List<Rel> copies = new ArrayList<>();
        for (Rel r : some) {
            Rel c = new Rel();
            c.number = r.number;
            c.kind = r.kind;
            c.attributes.addAll(r.attributes);
            for (Row row : r.rows) {
                Row rc = new Row();
                rc.values.putAll(row.values);
                rc.number = row.number;
                rc.copies = row.copies;
                rc.live = row.live;
                c.rows.add(rc);
            }
            copies.add(c);
        }
        return copies;
    }

    public int image() {
        imageRelations = copyOf(relations);
        imageRule = rule;
        imageQuery = query;
        return relations.size();
    }

    public int back() {
        if (imageRelations == null) {
            return STATE;
        }
        relations = copyOf(imageRelations);
        rule = imageRule;
        query = imageQuery;
        return relations.size();
    }

    public int count(int what) {
        int rows = 0;
        int liveRows = 0;
        for (Rel r : relations) {
            rows += r.rows.size();
            liveRows += live(r);
        }
        int[] all = {relations.size(), rows, liveRows, texts.size(), tape.length(), rule, query, slate.size()};
        return what < 0 || what >= all.length ? BAD : all[what];
    }

    public int sheet(int sheet, int sort, int n) {
        if (sheet < 0 || sheet > 3 || sort < -1 || sort > 2) {
            return BAD;
        }
        if (sort == -1) {
            sheets[sheet] = null;
            sorts[sheet] = -1;
            return 1;
        }
        if (n > 40) {
            return BAD;
        }
        if (n < 0) {
            return -14;
        }
        sheets[sheet] = new long[n];
        sorts[sheet] = sort;
        return 1;
    }

    public int put(int sheet, int i, long v) {
        if (sheet < 0 || sheet > 3) {
            return BAD;
        }
        if (sheets[sheet] == null) {
            return -11;
        }
        if (i < 0 || i >= sheets[sheet].length) {
            return -12;
        }
        sheets[sheet][i] = sorts[sheet] == 0 ? v : sorts[sheet] == 1 ? BigInteger.valueOf(v).intValue()
            : BigInteger.valueOf(v).byteValue();
        return 1;
    }

    public long item(int sheet, int i) {
        boolean is = sheet >= 0 && sheet <= 3 && sheets[sheet] != null && i >= 0 && i < sheets[sheet].length;
        return is ? sheets[sheet][i] : NO;
    }

    public int copy(int sheet, int i, int other, int j, int n) {
        if (sheet < 0 || sheet > 3 || other < 0 || other > 3) {
            return BAD;
        }
        if (sheets[sheet] == null || sheets[other] == null) {
            return -11;
        }
        if (sorts[sheet] != sorts[other]) {
            return -13;
        }
        try {
            System.arraycopy(sheets[sheet], i, sheets[other], j, n);
        } catch (IndexOutOfBoundsException e) {
            return -12;
        }
        return n;
    }

    public int load(int sheet, int relation, int sort, int from, int n) {
        if (sheet < 0 || sheet > 3 || relation < 0 || relation >= relations.size() || sort < 0 || sort > 2 || n < 0 || n > 8) {
            return BAD;
        }
        if (sheets[sheet] != null && sorts[sheet] != sort) {
            return -13;
        }
        if (sheets[sheet] == null) {
            return -11;
        }
        int came = 0;
        for (int k = 0; k < n; k++) {
            int[] four = new int[4];
            for (int f = 0; f < 4; f++) {
                long i = from + 4L * k + f;
                if (i < 0 || i >= sheets[sheet].length) {
                    return -12;
                }
                four[f] = (int) sheets[sheet][(int) i];
            }
            came += row(relation, four[0], four[1], four[2], four[3]) >= 0 ? 1 : 0;
        }
        return came;
    }

    public int taken(int relation, int k) {
        if (k < 0 || k > 5) {
            return BAD;
        }
        if (relation < 0 || relation >= relations.size()) {
            return -11;
        }
        return relations.get(relation).under(KIND[k]) ? relations.get(relation).kind : -13;
    }
}
