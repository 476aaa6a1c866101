/** Members of a class that break a rule of LANGUAGE.md each (with its number), and members that break none. */
final class LanguageSamples {
    static final String[][] BREAKS = {
        {"1", "static int a() { return 1; }"},
        {"1", "protected int b = 0;"},
        {"1", "public static class C { }"},
        {"1", "public int d() { return 1; } private int d(int e) { return e; }"},
        {"2", "class Inner { }"},
        {"2", "private int a() { class Local { } return 1; }"},
        {"2", "private Object a() { return new Iterable<Integer>() { public Iterator<Integer> iterator() { return null; } }; }"},
        {"2", "interface F { int f(int x); } private F a() { return x -> x; }"},
        {"2", "interface F { int f(int x); } private F a() { return Math::abs; }"},
        {"2", "enum E { A { int f() { return 1; } }; int f() { return 0; } }"},
        {"2", "enum E { A; final int[] f = {1}; }"},
        {"3", "private final Object a = null;"},
        {"3", "private final int[][][] a = null;"},
        {"3", "private final String[][] a = null;"},
        {"3", "private final Long a = null;"},
        {"3", "private final HashMap<String, String> a = null;"},
        {"3", "private List<String> a = null;"},
        {"3", "private static double a(double b) { return b % 2; }"},
        {"4", "private static int a(String b) { return b.hashCode(); }"},
        {"4", "private static int a(String b) { return b.indexOf(\"c\"); }"},
        {"4", "private static int a(int b) { return Math.addExact(b, 1); }"},
        {"4", "private static double a(double b) { return Math.sqrt(b); }"},
        {"4", "private static void a() { System.out.println(); }"},
        {"4", "private static void a(Sample[] b) { Arrays.fill(b, null); }"},
        {"4", "private static void a(int[] b) { Arrays.sort(b); }"},
        {"4", "private static long a() { return System.nanoTime(); }"},
        {"4", "private static final String A = \"\\u00e9\";"},
        {"4", "private static String a(int b) { return String.valueOf(b); }"},
        {"5", "private static int a = 0;"},
        {"5", "private static final int[] A = new int[3];"},
        {"5", "private static final int[] A = {1}; private void b() { A[0] = 2; }"},
        {"5", "private static final ArrayList<Integer> A = new ArrayList<>();"},
        {"5", "static { }"},
        {"6", "private static int a(int b) { throw new IllegalArgumentException(); }"},
        {"6", "private static int a(int b) { try { return 1; } finally { b++; } }"},
        {"6", "private static int a(int b) { assert b > 0; return b; }"},
        {"6", "private int a() { synchronized (this) { return 1; } }"},
        {"6", "private static boolean a(String b, String c) { return b == c; }"},
        {"6", "private static boolean a(Integer b, Integer c) { return b != c; }"},
        {"6", "private static boolean a(Sample b, Sample c) { return b.equals(c); }"},
        {"6", "private static int a(Sample b) { return b.hashCode(); }"},
        {"8", "private int a(int depth) { return depth > 3 ? 0 : a(depth + 1); }"},
        {"8", "public int a(int depth) { return depth > 3 ? 0 : b(depth + 1); } private int b(int depth) { return a(depth); }"},
        {"9", "private static void a() { while (true) { } }"},
        {"9", "private static void a() { for (;;) { } }"},
        {"9", "private static void a(boolean b) { while (b) { b = !b; } }"},
        {"9", "private static void a(int b, int c) { while (b < c) { int d = 1; } }"},
        {"10", "private static String a(String b) { return b + 1; }"},
        {"10", "private static String a(String b) { b += 'c'; return b; }"},
        {"11", "private void a(int a, int b, int c, int d, int e, int f, int g, int h) { }"},
        {"11", "private static int a() {" + "\n".repeat(60) + "return 1; }"},
        {"11", "private int " + "abcdefghijklmnopqrst".replaceAll(".", "$0 = 0, ") + "z = 0;"},
        {"11", "abcdefghijkl".replaceAll(".", "private static final class X$0 { } ")},
        {"11", "private int a0() { return 1; } " + deep(9)},
        {"12", "public Sample() { a(this); } private static void a(Sample b) { }"},
    };

    static final String[] FINE = {
        "private int a0() { return 1; } " + deep(8),
        "private static int a(int depth) { return depth > 3 ? 0 : a(depth + 1); }",
        "private int a(int depth) { return depth > 3 ? 0 : b(depth); } private int b(int depth) { return a(depth + 1); }",
        "private static final int[] A = {1, 2}; private static final long B = 3; private static final String C = \"d\";",
        "private static int a(int b) { int c = 0; while (c < b && c < 9) { c++; } return c; }",
        "private static int a(int b) { for (int i = 0; i < b; i++) { Sample c = new Sample(); } return b; }",
        "private static boolean a(String b, String c) { return b.equals(c); }",
        "private final ArrayList<Integer> a = new ArrayList<>(); private int b() { return a.isEmpty() ? 0 : a.get(0); }",
        "private static String a(int b) { StringBuilder c = new StringBuilder(); c.append(b).append('d'); return c.toString(); }",
        "private static int[] a(int[] b) { Arrays.fill(b, 1); System.arraycopy(b, 0, b, 0, 1); return Arrays.copyOf(b, 3); }",
        "private enum E { A, B; final int c = 1; } private static int a(E b) { switch (b) { case A: return b.c; default: return 2; } }",
        "private static double a(double b, double c) { return b * c + 1; }",
        "private static final class X { int y = 0; X z = null; } private static int a(X b) { int c = 0;"
            + " for (X d = b; d != null; d = d.z) { c++; } return c; }",
    };

    /** With the first, so many methods, each of which calls the one ahead. */
    private static String deep(int n) {
        StringBuilder all = new StringBuilder();
        for (int i = 1; i < n; i++) {
            all.append("private int a").append(i).append("() { return a").append(i - 1).append("(); } ");
        }
        return all.toString();
    }
}
