import java.lang.reflect.InvocationTargetException;
import java.lang.reflect.Method;
import java.util.ArrayList;
import java.util.HashMap;
import java.util.List;
import java.util.Map;
import java.util.Random;

/** Lays JoinDraws beside the model over many runs of random calls; the first call of a run that differs is told with its run. */
public final class RandomRunsTest {
    private static final int RUNS = 900;
    private static final int CALLS = 300;
    private static final String[] WORDS = {"a", "b", "c", "d", "e", "f", "row", "from", "copies", "fits", "or", "and", "not", "(", ")",
        ";", "+", "-", "*", "%", "<", "=", "0", "1", "2", "12", "9999", "00001", "g", "X", " ", "\n", "\t", "\u00e9"};

    /** Attributes of relations that no tree holds. */
    private static final int[][] RINGS = {{3, 6, 5}, {3, 6, 12, 9}, {3, 5, 6, 3}, {7, 14, 11, 13}, {3, 6, 5, 6}, {3, 12, 6, 9},
        {48, 24, 40, 56}, {3, 6, 5, 7}};

    private final Random random;
    private final JoinDraws made = new JoinDraws();
    private final Model model = new Model();
    private final List<String> calls = new ArrayList<>();
    private final int values;
    private final int attributes;
    private final boolean heavy;
    private static final Map<String, Method> OURS = new HashMap<>();
    private static final Map<String, Method> MODELS = new HashMap<>();
    private static final Map<String, Integer> ANSWERED = new HashMap<>();

    private RandomRunsTest(int seed) {
        random = new Random(seed);
        values = 1 + random.nextInt(3);
        attributes = 2 + random.nextInt(5);
        heavy = random.nextInt(5) == 0;
    }

    public static void main(String[] args) throws Exception {
        for (Method m : JoinDraws.class.getDeclaredMethods()) {
            if (java.lang.reflect.Modifier.isPublic(m.getModifiers())) {
                OURS.put(m.getName(), m);
                MODELS.put(m.getName(), Model.class.getDeclaredMethod(m.getName(), m.getParameterTypes()));
            }
        }
        int first = args.length > 1 ? Integer.parseInt(args[1]) : 0;
        int runs = args.length > 2 ? Integer.parseInt(args[2]) : RUNS;
        for (int seed = first; seed < first + runs; seed++) {
            RandomRunsTest run = new RandomRunsTest(seed);
            try {
                run.run();
            } catch (Differs e) {
                System.out.println("run " + seed + ": " + e.getMessage());
                int from = Math.max(0, run.calls.size() - 60);
                System.out.println(String.join("\n", run.calls.subList(from, run.calls.size())));
                System.exit(1);
            }
        }
        if (args.length > 3) {
            ANSWERED.keySet().stream().sorted().forEach(k -> System.out.println(k + " " + ANSWERED.get(k)));
        }
        System.out.println(runs + " runs of " + CALLS + " calls are as the model's");
    }

    private static final class Differs extends Exception {
        private static final long serialVersionUID = 1;

        Differs(String what) {
            super(what);
        }
    }

    private long call(String name, long... given) throws Exception {
        Method ours = OURS.get(name);
        Object[] args = new Object[given.length];
        for (int i = 0; i < given.length; i++) {
            args[i] = ours.getParameterTypes()[i] == long.class ? (Object) given[i] : (Object) (int) given[i];
        }
        long want;
        long got;
        try {
            want = ((Number) MODELS.get(name).invoke(model, args)).longValue();
            got = ((Number) ours.invoke(made, args)).longValue();
        } catch (InvocationTargetException e) {
            e.getCause().printStackTrace();
            throw new Differs(name + java.util.Arrays.toString(given) + " threw " + e.getCause());
        }
        calls.add(name + java.util.Arrays.toString(given) + " -> " + got);
        ANSWERED.merge(name + (got == Model.NO ? " NO" : got < 0 ? " " + Math.max(got, -100) : " +"), 1, Integer::sum);
        if (want == Model.UNKNOWN) {
            if (got < Model.MOST_TRIED || call("at", got, 1) != given[0]) {
                throw new Differs(name + java.util.Arrays.toString(given) + " answered " + got);
            }
        } else if (want != got) {
            throw new Differs(name + java.util.Arrays.toString(given) + " answered " + got + ", due is " + want);
        }
        return got;
    }

    private int some(int n) {
        return random.nextInt(n);
    }

    /** A number of 0 .. n - 1, now and then one beside these. */
    private int near(int n) {
        switch (some(24)) {
            case 0: return -1;
            case 1: return n;
            case 2: return some(4) == 0 ? (some(2) == 0 ? Integer.MIN_VALUE : Integer.MAX_VALUE) : some(n);
            default: return some(n);
        }
    }

    private int copies() {
        int often = heavy ? some(6) : 3 + some(40);
        switch (often) {
            case 0: return 2000000000;
            case 1: return some(2000000001);
            case 2: return some(60000);
            case 3: return some(3) == 0 ? (some(2) == 0 ? 0 : 2000000001) : 1;
            default: return 1 + some(often > 10 ? 3 : 12);
        }
    }

    private int relation() {
        return some(12) == 0 ? near(4) : some(Math.max(1, Math.min(4, model.relations.size())));
    }

    private int rowOf(int relation) {
        boolean is = relation >= 0 && relation < model.relations.size() && !model.relations.get(relation).rows.isEmpty();
        return some(12) == 0 || !is ? near(8) : some(model.relations.get(relation).rows.size());
    }

    private int sets() {
        int n = 1 + some(3);
        int set = 0;
        for (int i = 0; i < n; i++) {
            set |= 1 << some(attributes);
        }
        return some(25) == 0 ? near(64) : set;
    }

    private int query() {
        return some(20) == 0 ? near(16) : some(6) == 0 ? some(1 << model.relations.size()) : (1 << model.relations.size()) - 1;
    }

    private String one(int depth) {
        switch (some(depth > 0 ? 6 : 4)) {
            case 0: return "" + some(3);
            case 1: return WORDS[some(9)];
            case 2: return WORDS[some(attributes)];
            case 3: return some(4) == 0 ? "" + some(10000) : WORDS[some(6)];
            case 4: return "-" + one(depth - 1);
            default: return "(" + any(depth - 1) + ")";
        }
    }

    private String sum(int depth) {
        StringBuilder b = new StringBuilder(one(depth));
        while (some(3) == 0) {
            b.append("+-*%".charAt(some(4))).append(some(4) == 0 ? " " : "").append(one(depth));
        }
        return b.toString();
    }

    private String denied(int depth) {
        if (depth > 0 && some(6) == 0) {
            return "not " + denied(depth - 1);
        }
        return some(2) == 0 ? sum(depth) : sum(depth) + "<=".charAt(some(2)) + sum(depth);
    }

    private String any(int depth) {
        StringBuilder b = new StringBuilder(denied(depth));
        while (some(4) == 0) {
            b.append(some(2) == 0 ? " and " : " or ").append(denied(depth));
        }
        return b.toString();
    }

    private void write() throws Exception {
        String text = "fits " + any(some(7)) + (some(3) == 0 ? " ;\n" : ";");
        if (some(3) == 0) {
            int at = some(text.length());
            int cut = Math.min(text.length(), at + some(3));
            text = text.substring(0, at) + WORDS[some(WORDS.length)] + text.substring(cut);
        }
        if (some(15) == 0) {
            StringBuilder b = new StringBuilder();
            for (int i = some(20); i >= 0; i--) {
                b.append(WORDS[some(WORDS.length)]);
            }
            text = b.toString();
        }
        for (int i = 0; i < text.length(); i++) {
            call("feed", text.charAt(i));
        }
        long n = call("text");
        if (n > 0 && some(4) == 0) {
            call("force", n);
        }
    }

    private void build() throws Exception {
        int n = some(10) == 0 ? some(5) : 2 + some(3);
        int[] ring = RINGS[some(RINGS.length)];
        boolean rings = some(2) == 0;
        for (int r = 0; r < n; r++) {
            call("relation", some(3) == 0 ? some(6) : some(2) * some(6), rings && r < ring.length ? ring[r] : sets());
        }
        for (int i = some(8) == 0 ? some(9) : 15 + some(30); i > 0; i--) {
            addRow();
        }
        call("query", query());
    }

    private void addRow() throws Exception {
        call("row", relation(), someValue(), someValue(), someValue(), copies());
    }

    private int someValue() {
        return some(60) == 0 ? near(10) : some(values);
    }

    private void run() throws Exception {
        if (some(20) > 0) {
            build();
        }
        if (some(4) == 0) {
            write();
        }
        while (calls.size() < CALLS) {
            if (some(70) == 0) {
                write();
            }
            if (some(60) == 0) {
                fillSheet();
            }
            callOne();
        }
    }

    private void fillSheet() throws Exception {
        int sheet = some(4);
        int n = some(3) == 0 ? 4 * some(10) : some(8);
        call("sheet", sheet, some(3), n);
        boolean rows = some(2) == 0;
        for (int i = 0; i < n; i++) {
            int relation = relation();
            long item = rows ? (i % 4 == 3 ? copies() : someValue()) : 8L * relation + rowOf(relation);
            call("put", sheet, i, some(30) == 0 ? random.nextLong() : some(12) == 0 ? -1 : item);
        }
        if (rows) {
            call("load", sheet, relation(), some(3), some(5), some(9));
        } else {
            call("strip", sheet, limit());
        }
    }

    private long position() {
        long space = model.space();
        return some(15) == 0 ? random.nextLong() : some(10) == 0 ? space : space <= 0 ? some(3) : Math.floorMod(random.nextLong(), space);
    }

    private long limit() {
        long count = model.answers();
        return some(10) == 0 ? -1 : some(3) == 0 || count <= 0 ? some(20) : some(2) == 0 ? count / (1 + some(6)) : 0;
    }

    private int digits() {
        Model.Joined join = model.join();
        if (some(6) == 0 || join.great || join.answers.isEmpty()) {
            return near(10000);
        }
        return join.digits(join.answers.get(some(join.answers.size())));
    }

    private int seed() {
        return some(10) == 0 ? random.nextInt() : some(20) == 0 ? Integer.MAX_VALUE : some(40);
    }

    private void callOne() throws Exception {
        int r = relation();
        switch (some(48)) {
            case 0: call("relation", near(6), sets()); break;
            case 1: case 2: case 3: addRow(); break;
            case 4: case 43: if (some(3) > 0) call("remove", r, rowOf(r)); break;
            case 5: case 44: call("restore", r, rowOf(r)); break;
            case 6: call("copies", r, rowOf(r), copies()); break;
            case 7: call("told", r, rowOf(r), near(6)); break;
            case 8: call("worth", r, rowOf(r)); break;
            case 9: call("about", r, near(7)); break;
            case 10: call("query", query()); break;
            case 11: call("shape", near(5)); break;
            case 12: call("feed", near(256)); break;
            case 13: if (some(5) == 0) call("text"); break;
            case 14: if (some(3) == 0) call("force", near(model.texts.size())); break;
            case 15: call("weight", r, rowOf(r)); break;
            case 16: call("bound", r); break;
            case 17: call("space"); break;
            case 18: call("answers"); break;
            case 19: case 45: call("at", position(), near(8)); break;
            case 20: case 46: call("find", digits()); break;
            case 21: call("draw", seed(), near(2)); break;
            case 22: int n = near(9); call("shuffle", seed(), n, near(Math.max(1, n))); break;
            case 23: call("odds", r, rowOf(r), near(2)); break;
            case 24: call("values", near(6), some(3) == 0 ? near(10) : some(values)); break;
            case 25: call("likeliest", near(6)); break;
            case 26: call("dangling", r); break;
            case 27: call("without", r, rowOf(r)); break;
            case 28: call("key", near(2)); break;
            case 29: call("strip", near(4), limit()); break;
            case 30: call("slate", near(5)); break;
            case 31: call("lot", seed(), near(21), near(6), some(values), near(2)); break;
            case 32: call("tells", near(4), near(3)); break;
            case 33: call("film", near(4), near(13)); break;
            case 34: call("image"); break;
            case 35: if (some(3) == 0) call("back"); break;
            case 36: call("count", near(8)); break;
            case 37: call("sheet", near(4), some(6) == 0 ? near(4) - 1 : some(3), some(4) == 0 ? near(41) : some(14)); break;
            case 38: call("put", near(4), near(12), some(2) == 0 ? some(40) : random.nextLong() >> some(64)); break;
            case 39: call("item", near(4), near(12)); break;
            case 40: call("copy", near(4), near(8), near(4), near(8), near(6)); break;
            case 41: call("load", near(4), r, near(3), near(6), near(9)); break;
            case 42: call("taken", r, near(6)); break;
            default: call("tells", some(4), 1 + some(2)); break;
        }
    }
}
