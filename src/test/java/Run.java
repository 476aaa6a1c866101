import java.lang.reflect.InvocationTargetException;
import java.lang.reflect.Method;
import java.lang.reflect.Modifier;
import java.util.ArrayList;
import java.util.HashMap;
import java.util.List;
import java.util.Map;

/** Calls on one object, kept as they come, so that the same object can be made anew with or without one of them. */
final class Run {
    /** Nothing is promised about an object behind these. */
    private static final int CALLS = 512;
    private static final Map<String, Method> FACE = new HashMap<>();

    static {
        for (Method m : JoinDraws.class.getDeclaredMethods()) {
            if (Modifier.isPublic(m.getModifiers())) {
                FACE.put(m.getName(), m);
            }
        }
    }

    private record Call(String name, long[] given) {
        String told() {
            String all = java.util.Arrays.toString(given);
            return name + "(" + all.substring(1, all.length() - 1) + ")";
        }
    }

    private final JoinDraws made = new JoinDraws();
    private final List<Call> calls = new ArrayList<>();

    long ask(String name, long... given) {
        Method m = FACE.get(name);
        Object[] args = new Object[given.length];
        for (int i = 0; i < given.length; i++) {
            args[i] = m.getParameterTypes()[i] == long.class ? (Object) given[i] : (Object) Math.toIntExact(given[i]);
        }
        calls.add(new Call(name, given));
        if (calls.size() > CALLS) {
            throw new IllegalStateException("a test calls one object more than " + CALLS + " times");
        }
        try {
            return ((Number) m.invoke(made, args)).longValue();
        } catch (IllegalAccessException | InvocationTargetException e) {
            throw new IllegalStateException(calls.get(calls.size() - 1).told() + " threw", e.getCause());
        }
    }

    /** A call whose answer another test asks for. */
    Run call(String name, long... given) {
        ask(name, given);
        return this;
    }

    Run due(long want, String name, long... given) {
        long got = ask(name, given);
        Edges.due(calls.get(calls.size() - 1).told(), got, want);
        return this;
    }

    /** A call that is refused: all that can be asked of the object is as if there had been no such call. */
    Run refused(long want, String name, long... given) {
        Run without = anew();
        due(want, name, given);
        List<String> before = without.state();
        List<String> after = anew().state();
        Call last = calls.get(calls.size() - 1);
        for (int i = 0; i < Math.max(before.size(), after.size()); i++) {
            String was = i < before.size() ? before.get(i) : "nothing";
            String is = i < after.size() ? after.get(i) : "nothing";
            if (!was.equals(is)) {
                Edges.wrong(last.told() + ", which is refused, changes something: " + is + " instead of " + was);
                return this;
            }
        }
        Edges.counted();
        return this;
    }

    private Run anew() {
        Run run = new Run();
        for (Call c : calls) {
            run.call(c.name, c.given);
        }
        return run;
    }

    Run feed(String text) {
        for (int i = 0; i < text.length(); i++) {
            call("feed", text.charAt(i));
        }
        return this;
    }

    /** One text more. */
    Run text(String text) {
        if (feed(text).ask("text") < 0) {
            Edges.wrong("'" + text + "' is no text");
        }
        return this;
    }

    /** The rule becomes this text. */
    Run rule(String text) {
        text(text);
        return call("force", ask("count", 3) - 1);
    }

    Run lay(int sheet, int sort, long... items) {
        call("sheet", sheet, sort, items.length);
        for (int i = 0; i < items.length; i++) {
            call("put", sheet, i, items[i]);
        }
        return this;
    }

    /** Asks for all that the object holds; what can only be seen by changing it comes last. */
    private List<String> state() {
        List<String> told = new ArrayList<>();
        rows(told);
        tell(told, "space");
        tell(told, "answers");
        for (int what = 0; what < 5; what++) {
            tell(told, "shape", what);
        }
        for (long i = ask("count", 7); i >= 0; i--) {
            tell(told, "slate", i);
        }
        sheets(told);
        tell(told, "text");
        long newest = ask("count", 3) - 1;
        tell(told, "force", newest);
        rows(told);
        tell(told, "back");
        rows(told);
        sorts(told);
        return told;
    }

    private void tell(List<String> told, String name, long... given) {
        long got = ask(name, given);
        told.add(calls.get(calls.size() - 1).told() + " -> " + got);
    }

    private void rows(List<String> told) {
        for (int what = 0; what < 8; what++) {
            tell(told, "count", what);
        }
        boolean first = told.size() < 20;
        long relations = ask("count", 0);
        for (int r = 0; r < relations; r++) {
            for (int what = 0; what < 7; what++) {
                tell(told, "about", r, what);
            }
            long rows = ask("about", r, 2);
            for (int row = 0; row < rows; row++) {
                tell(told, "told", r, row, 3);
                for (int what = 0; first && what < 3; what++) {
                    tell(told, "told", r, row, what);
                }
            }
        }
    }

    private void sheets(List<String> told) {
        for (int s = 0; s < 4; s++) {
            for (int i = 0; ask("copy", s, i, s, i, 0) == 0; i++) {
                tell(told, "item", s, i);
            }
            for (int t = 0; t < s; t++) {
                tell(told, "copy", s, 0, t, 0, 0);
            }
        }
    }

    private void sorts(List<String> told) {
        for (int s = 0; s < 4; s++) {
            tell(told, "put", s, 0, 1L << 40 | 1 << 20 | 200);
            tell(told, "item", s, 0);
        }
    }
}
