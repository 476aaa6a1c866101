/** Each promise by hand: ordinary calls, edges, wrong numbers, and which refusal comes first. */
public final class PromisesTest {
    private static final int BAD = -2, STATE = -3, FULL = -4, GREAT = -5;
    private static final int BAG = 0, SET = 1, LOG = 2, KEYED = 3, CAPPED = 4, DOUBLED = 5;
    private static final int MOST = 2000000000;
    private static final long NO = -4611686018427387904L;

    private static int wrong = 0;
    private static int asked = 0;
    private static int promise = 0;

    private static void due(String call, long got, long want) {
        asked++;
        if (got != want) {
            wrong++;
            System.out.println("promise " + promise + ": " + call + " answered " + got + ", due is " + want);
        }
    }

    public static void main(String[] args) {
        object();
        relation();
        row();
        kindsTake();
        remove();
        restore();
        copies();
        told();
        worth();
        about();
        query();
        shape();
        trees();
        feed();
        text();
        faults();
        tellings();
        force();
        weight();
        bound();
        space();
        greatEdges();
        answers();
        at();
        atWithManyChildren();
        find();
        draw();
        drawAnew();
        shuffle();
        odds();
        values();
        likeliest();
        dangling();
        without();
        key();
        strip();
        slate();
        lot();
        tells();
        film();
        image();
        back();
        count();
        sheet();
        put();
        item();
        copy();
        load();
        taken();
        System.out.println(wrong == 0 ? asked + " answers are as due" : wrong + " answers are not as due");
        if (wrong != 0) {
            System.exit(1);
        }
    }

    // ---- joins that many promises use

    /** Relation 0 (a b): 1 2, 1 3, 2 2 by 1, 2, 3 copies; relation 1 (b c): 2 5, 3 5, 3 6, 2 7 by 1, 2, 1, 5. 30 answers. */
    private static JoinDraws pair() {
        JoinDraws x = new JoinDraws();
        x.relation(BAG, 3);
        x.row(0, 1, 2, 0, 1);
        x.row(0, 1, 3, 0, 2);
        x.row(0, 2, 2, 0, 3);
        x.relation(SET, 6);
        x.row(1, 2, 5, 0, 1);
        x.row(1, 3, 5, 0, 2);
        x.row(1, 3, 6, 0, 1);
        x.row(1, 2, 7, 0, 5);
        x.query(3);
        return x;
    }

    /** The pair, and a check (a c): 1 5, 2 6, 1 7 by 9 (CAPPED 50), 2, 1. 50 answers in a space of 270. */
    private static JoinDraws ring() {
        JoinDraws x = pair();
        x.relation(CAPPED, 5);
        x.row(2, 1, 5, 0, 50);
        x.row(2, 2, 6, 0, 2);
        x.row(2, 1, 7, 0, 1);
        x.query(7);
        return x;
    }

    /** Three relations that share nothing, of 2000000000 copies each: 8 * 10 ^ 27 answers. */
    private static JoinDraws great() {
        JoinDraws x = new JoinDraws();
        for (int r = 0; r < 3; r++) {
            x.relation(BAG, 1 << r);
            x.row(r, r, 0, 0, MOST);
        }
        x.query(7);
        return x;
    }

    /** Two relations whose rows do not meet. */
    private static JoinDraws apart() {
        JoinDraws x = new JoinDraws();
        x.relation(BAG, 3);
        x.relation(BAG, 6);
        x.row(0, 1, 2, 0, 1);
        x.row(1, 3, 4, 0, 1);
        x.query(3);
        return x;
    }

    private static void write(JoinDraws x, String text) {
        for (int i = 0; i < text.length(); i++) {
            x.feed(text.charAt(i));
        }
    }

    private static int textOf(JoinDraws x, String text) {
        write(x, text);
        return x.text();
    }

    private static void lay(JoinDraws x, int sheet, int sort, long... items) {
        x.sheet(sheet, sort, items.length);
        for (int i = 0; i < items.length; i++) {
            x.put(sheet, i, items[i]);
        }
    }

    // ---- 1 .. 11: relations, rows

    private static void object() {
        promise = 1;
        JoinDraws x = new JoinDraws();
        int[] counts = {0, 0, 0, 1, 0, 0, 0, 0};
        for (int what = 0; what < counts.length; what++) {
            due("count(" + what + ") anew", x.count(what), counts[what]);
        }
        due("shape(0) anew", x.shape(0), STATE);
        due("back() anew", x.back(), STATE);
        due("slate(0) anew", x.slate(0), -99);
        for (int s = 0; s < 4; s++) {
            due("put(" + s + ") anew", x.put(s, 0, 1), -11);
        }
        due("NONE", JoinDraws.NONE, -1);
        due("BAD", JoinDraws.BAD, -2);
        due("STATE", JoinDraws.STATE, -3);
        due("FULL", JoinDraws.FULL, -4);
        due("GREAT", JoinDraws.GREAT, -5);
        due("NO", JoinDraws.NO, NO);
    }

    private static void relation() {
        promise = 2;
        JoinDraws x = new JoinDraws();
        int[][] bad = {{-1, 1}, {6, 1}, {0, 0}, {0, 64}, {0, -1}, {0, 15}, {0, 63}, {0, 65}, {Integer.MIN_VALUE, 1},
            {Integer.MAX_VALUE, 1}, {0, Integer.MIN_VALUE}, {0, Integer.MAX_VALUE}};
        for (int[] b : bad) {
            due("relation(" + b[0] + ", " + b[1] + ")", x.relation(b[0], b[1]), BAD);
        }
        due("count(0) after refusals", x.count(0), 0);
        due("relation(0, 1)", x.relation(0, 1), 0);
        due("relation(5, 32)", x.relation(5, 32), 1);
        due("relation(2, 7)", x.relation(2, 7), 2);
        due("relation(3, 56)", x.relation(3, 56), 3);
        due("relation(0, 1), full", x.relation(0, 1), FULL);
        due("relation(6, 1), full", x.relation(6, 1), BAD);
        due("relation(0, 0), full", x.relation(0, 0), BAD);
        due("count(0)", x.count(0), 4);
    }

    private static void row() {
        promise = 3;
        JoinDraws x = new JoinDraws();
        x.relation(BAG, 42);
        x.relation(SET, 1);
        due("row(2, ..)", x.row(2, 0, 0, 0, 1), BAD);
        due("row(-1, ..)", x.row(-1, 0, 0, 0, 1), BAD);
        due("row(0, -1, ..)", x.row(0, -1, 0, 0, 1), BAD);
        due("row(0, 10, ..)", x.row(0, 10, 0, 0, 1), BAD);
        due("row(0, 0, 10, ..)", x.row(0, 0, 10, 0, 1), BAD);
        due("row(0, 0, 0, -1)", x.row(0, 0, 0, -1, 1), BAD);
        due("row(0, 0, 0, 10)", x.row(0, 0, 0, 10, 1), BAD);
        due("copies 0", x.row(0, 0, 0, 0, 0), BAD);
        due("copies below 0", x.row(0, 0, 0, 0, -1), BAD);
        due("copies above", x.row(0, 0, 0, 0, MOST + 1), BAD);
        due("count(1) after refusals", x.count(1), 0);
        due("row(0, 9, 0, 9, most)", x.row(0, 9, 0, 9, MOST), 0);
        due("row(0, 9, 0, 9, 1)", x.row(0, 9, 0, 9, 1), 1);
        due("told(0, 0, 0)", x.told(0, 0, 0), 9);
        due("told(0, 0, 1)", x.told(0, 0, 1), 0);
        due("told(0, 0, 2)", x.told(0, 0, 2), 9);
        due("more values do not matter", x.row(1, 0, -5, 77, 1), 0);
        for (int v = 1; v < 8; v++) {
            due("row " + v, x.row(1, v, 0, 0, 1), v);
        }
        due("full", x.row(1, 8, 0, 0, 1), FULL);
        due("alike is refused ahead of full", x.row(1, 7, 0, 0, 1), STATE);
        due("bad is refused ahead of all", x.row(1, 7, 0, 0, 0), BAD);
        due("about(1, 2)", x.about(1, 2), 8);
        due("about(1, 3)", x.about(1, 3), 255);
        x.remove(1, 3);
        due("removed ones have their places", x.row(1, 3, 0, 0, 1), FULL);
    }

    private static void kindsTake() {
        promise = 3;
        int[][] due = {{1, 2, 3}, {STATE, 1, 2}, {1, 2, 3}, {STATE, STATE, 1}, {1, 2, 3}, {STATE, STATE, 1}};
        for (int kind = BAG; kind <= DOUBLED; kind++) {
            JoinDraws x = new JoinDraws();
            x.relation(kind, 6);
            x.row(0, 1, 1, 0, 1);
            due("kind " + kind + ", alike", x.row(0, 1, 1, 0, 2), due[kind][0]);
            due("kind " + kind + ", same first value", x.row(0, 1, 2, 0, 2), due[kind][1]);
            due("kind " + kind + ", other first value", x.row(0, 2, 1, 0, 2), due[kind][2]);
            due("kind " + kind + ", rows", x.about(0, 2), due[kind][2] + 1);
        }
        JoinDraws x = new JoinDraws();
        x.relation(KEYED, 3);
        x.row(0, 1, 1, 0, 1);
        x.remove(0, 0);
        due("a removed row hinders none", x.row(0, 1, 1, 0, 1), 1);
    }

    private static void remove() {
        promise = 4;
        for (int kind = BAG; kind <= DOUBLED; kind++) {
            JoinDraws x = new JoinDraws();
            x.relation(BAG, 1);
            x.row(0, 1, 0, 0, 1);
            x.relation(kind, 3);
            x.row(1, 1, 2, 0, 1);
            x.row(1, 2, 2, 0, 1);
            boolean lets = kind != LOG && kind != CAPPED;
            due("remove, kind " + kind, x.remove(1, 0), lets ? 1 : STATE);
            due("live, kind " + kind, x.about(1, 3), lets ? 2 : 3);
            due("again, kind " + kind, x.remove(1, 0), STATE);
            due("the other, kind " + kind, x.remove(1, 1), lets ? 0 : STATE);
            due("remove(1, 2)", x.remove(1, 2), BAD);
            due("remove(1, -1)", x.remove(1, -1), BAD);
            due("remove(2, 0)", x.remove(2, 0), BAD);
            due("remove(-1, 0)", x.remove(-1, 0), BAD);
            due("count(2)", x.count(2), lets ? 1 : 3);
        }
        JoinDraws x = pair();
        due("answers", x.answers(), 30);
        x.remove(0, 0);
        due("answers then", x.answers(), 24);
    }

    private static void restore() {
        promise = 5;
        JoinDraws x = new JoinDraws();
        x.relation(SET, 3);
        x.row(0, 1, 1, 0, 1);
        x.row(0, 2, 1, 0, 1);
        due("restore a live one", x.restore(0, 0), STATE);
        x.remove(0, 0);
        due("restore", x.restore(0, 0), 2);
        x.remove(0, 0);
        x.row(0, 1, 1, 0, 5);
        due("one alike is live", x.restore(0, 0), STATE);
        due("it is as it was", x.about(0, 3), 6);
        x.remove(0, 2);
        due("none alike is live", x.restore(0, 0), 2);
        due("restore(0, 3)", x.restore(0, 3), BAD);
        due("restore(1, 0)", x.restore(1, 0), BAD);
        due("restore(0, -1)", x.restore(0, -1), BAD);
        due("restore(-1, 0)", x.restore(-1, 0), BAD);
        x.relation(KEYED, 3);
        x.row(1, 1, 1, 0, 1);
        x.remove(1, 0);
        x.row(1, 1, 2, 0, 1);
        due("one of the same key is live", x.restore(1, 0), STATE);
        x.relation(DOUBLED, 3);
        x.row(2, 1, 1, 0, 1);
        x.remove(2, 0);
        x.row(2, 1, 2, 0, 1);
        due("doubled: one of the same key is live", x.restore(2, 0), STATE);
        x.relation(BAG, 3);
        x.row(3, 1, 1, 0, 1);
        x.row(3, 1, 1, 0, 1);
        x.remove(3, 0);
        due("a bag takes all", x.restore(3, 0), 2);
        JoinDraws y = pair();
        y.remove(0, 2);
        due("answers without", y.answers(), 12);
        y.restore(0, 2);
        due("answers with", y.answers(), 30);
    }

    private static void copies() {
        promise = 6;
        JoinDraws x = pair();
        due("answers", x.answers(), 30);
        due("copies(0, 0, 4)", x.copies(0, 0, 4), 1);
        due("copies(0, 0, 4) again", x.copies(0, 0, 4), 4);
        due("answers then", x.answers(), 48);
        due("copies 0", x.copies(0, 0, 0), BAD);
        due("copies above", x.copies(0, 0, MOST + 1), BAD);
        due("no row", x.copies(0, 3, 1), BAD);
        due("no relation", x.copies(2, 0, 1), BAD);
        due("row -1", x.copies(0, -1, 1), BAD);
        due("most", x.copies(0, 0, MOST), 4);
        due("least", x.copies(0, 0, 1), MOST);
        x.remove(0, 0);
        due("of a removed one", x.copies(0, 0, 7), 1);
        due("told(0, 0, 3)", x.told(0, 0, 3), 7);
        x.relation(LOG, 1);
        x.row(2, 1, 0, 0, 3);
        due("of a log's", x.copies(2, 0, 8), 3);
    }

    private static void told() {
        promise = 7;
        JoinDraws x = new JoinDraws();
        x.relation(BAG, 44);
        x.row(0, 3, 4, 5, 60);
        int[] due = {3, 4, 5, 60, 1, 1};
        for (int what = 0; what < 6; what++) {
            due("told(0, 0, " + what + ")", x.told(0, 0, what), due[what]);
        }
        due("told(0, 0, 6)", x.told(0, 0, 6), BAD);
        due("told(0, 0, -1)", x.told(0, 0, -1), BAD);
        due("told(0, 1, 0)", x.told(0, 1, 0), BAD);
        due("told(1, 0, 0)", x.told(1, 0, 0), BAD);
        x.remove(0, 0);
        due("told(0, 0, 4), removed", x.told(0, 0, 4), 0);
        due("told(0, 0, 5), removed", x.told(0, 0, 5), 0);
        x.restore(0, 0);
        x.force(textOf(x, "fits c = 9;"));
        due("told(0, 0, 4), of no rule's", x.told(0, 0, 4), 1);
        due("told(0, 0, 5), of no rule's", x.told(0, 0, 5), 0);
        x.relation(BAG, 32);
        x.row(1, 7, 0, 0, 1);
        due("told(1, 0, 0)", x.told(1, 0, 0), 7);
        due("told(1, 0, 1)", x.told(1, 0, 1), -1);
        due("told(1, 0, 2)", x.told(1, 0, 2), -1);
    }

    private static void worth() {
        promise = 8;
        long[] small = {5, 5, 5, 5, 5, 10};
        long[] ten = {10, 10, 10, 10, 9, 20};
        long[] most = {MOST, MOST, MOST, MOST, 9, 4000000000L};
        for (int kind = BAG; kind <= DOUBLED; kind++) {
            JoinDraws x = new JoinDraws();
            x.relation(kind, 1);
            x.row(0, 1, 0, 0, 5);
            x.row(0, 2, 0, 0, 10);
            x.row(0, 3, 0, 0, MOST);
            due("worth, kind " + kind, x.worth(0, 0), small[kind]);
            due("worth of 10, kind " + kind, x.worth(0, 1), ten[kind]);
            due("worth of most, kind " + kind, x.worth(0, 2), most[kind]);
            due("no row", x.worth(0, 3), NO);
            due("no relation", x.worth(1, 0), NO);
            due("row -1", x.worth(0, -1), NO);
            x.remove(0, 0);
            due("of a removed one", x.worth(0, 0), small[kind]);
        }
    }

    private static void about() {
        promise = 9;
        JoinDraws x = ring();
        int[][] due = {{BAG, 3, 3, 7, 1, 0, 7}, {SET, 6, 4, 15, -1, 1, 15}, {CAPPED, 5, 3, 7, -6, 0, 7}};
        for (int r = 0; r < 3; r++) {
            for (int what = 0; what < 7; what++) {
                due("about(" + r + ", " + what + ")", x.about(r, what), due[r][what]);
            }
        }
        due("about(0, 7)", x.about(0, 7), BAD);
        due("about(0, -1)", x.about(0, -1), BAD);
        due("about(3, 0)", x.about(3, 0), BAD);
        due("about(-1, 0)", x.about(-1, 0), BAD);
        x.remove(0, 1);
        due("live", x.about(0, 3), 5);
        x.force(textOf(x, "fits row = 2 or row = 1;"));
        due("passing", x.about(0, 6), 4);
        x.query(1);
        due("about(1, 4), not asked", x.about(1, 4), -7);
        due("about(1, 5), not asked", x.about(1, 5), 0);
        due("about(1, 6), not asked", x.about(1, 6), 6);
        due("about(0, 4), alone", x.about(0, 4), -1);
        x.query(0);
        due("about(0, 4), none asked", x.about(0, 4), -7);
        due("about(0, 5), none asked", x.about(0, 5), 0);
    }

    private static void query() {
        promise = 10;
        JoinDraws x = new JoinDraws();
        due("query(0)", x.query(0), 0);
        due("query(1), none made", x.query(1), BAD);
        x.relation(BAG, 1);
        x.relation(BAG, 2);
        due("query(3)", x.query(3), 2);
        due("query(4)", x.query(4), BAD);
        due("query(-1)", x.query(-1), BAD);
        due("query(16)", x.query(16), BAD);
        due("query(19)", x.query(19), BAD);
        due("query(min)", x.query(Integer.MIN_VALUE), BAD);
        due("count(6)", x.count(6), 3);
        x.relation(BAG, 4);
        x.relation(BAG, 8);
        due("query(15)", x.query(15), 4);
        due("query(10)", x.query(10), 2);
        due("count(6)", x.count(6), 10);
        due("query(0)", x.query(0), 0);
        due("answers()", x.answers(), NO);
    }

    private static void shape() {
        promise = 11;
        JoinDraws x = ring();
        int[] due = {3, 4, 1, 0, 7};
        for (int what = 0; what < 5; what++) {
            due("shape(" + what + ")", x.shape(what), due[what]);
        }
        due("shape(5)", x.shape(5), BAD);
        due("shape(-1)", x.shape(-1), BAD);
        x.query(0);
        due("shape(5), empty", x.shape(5), BAD);
        for (int what = 0; what < 5; what++) {
            due("shape(" + what + "), empty", x.shape(what), STATE);
        }
        JoinDraws y = great();
        due("great", y.shape(3), 1);
        due("kept, great", y.shape(0), 7);
        due("attributes, great", y.shape(4), 7);
        y.query(5);
        due("attributes of two", y.shape(4), 5);
    }

    private static JoinDraws of(int... attributes) {
        JoinDraws x = new JoinDraws();
        for (int a : attributes) {
            x.relation(BAG, a);
        }
        x.query((1 << attributes.length) - 1);
        return x;
    }

    private static void tree(JoinDraws x, String name, int kept, int checks, int root, int... parents) {
        due(name + ": kept", x.shape(0), kept);
        due(name + ": checks", x.shape(1), checks);
        due(name + ": root", x.shape(2), root);
        for (int r = 0; r < parents.length; r++) {
            due(name + ": parent of " + r, x.about(r, 4), parents[r]);
            int children = 0;
            for (int c = 0; c < parents.length; c++) {
                children |= parents[c] == r ? 1 << c : 0;
            }
            due(name + ": children of " + r, x.about(r, 5), children);
        }
    }

    private static void trees() {
        promise = 11;
        tree(of(3, 6, 12, 24), "a chain", 15, 0, 3, 1, 2, 3, -1);
        tree(of(7, 1, 2, 4), "a star, its middle first", 15, 0, 3, 3, 0, 0, -1);
        tree(of(1, 2, 4, 7), "a star, its middle last", 15, 0, 3, 3, 3, 3, -1);
        tree(of(1, 2, 4, 8), "nothing shared", 15, 0, 3, 1, 2, 3, -1);
        tree(of(3, 3, 3, 3), "all alike", 15, 0, 3, 1, 2, 3, -1);
        tree(of(3, 6, 5), "a ring of three", 3, 4, 1, 1, -1, -6);
        tree(of(3, 6, 12, 9), "a ring of four", 7, 8, 2, 1, 2, -1, -6);
        tree(of(3, 6, 5, 7), "kept by numbers: the one that would hold all comes too late", 11, 4, 3, 3, 3, -6, -1);
        tree(of(7, 3, 6, 5), "a ring that the first holds", 15, 0, 3, 3, 0, 0, -1);
        tree(of(3, 24, 6, 5), "a ring and one beside it", 7, 8, 2, 2, 2, -1, -6);
        tree(of(3, 6, 5, 6), "two behind a check", 11, 4, 3, 1, 3, -6, -1);
        JoinDraws x = of(3, 6, 5, 12);
        x.query(14);
        tree(x, "part of it", 14, 0, 3, -7, 2, 3, -1);
        x.query(8);
        tree(x, "one of it", 8, 0, 3, -7, -7, -7, -1);
    }

    // ---- 12 .. 14: texts

    private static void feed() {
        promise = 12;
        JoinDraws x = new JoinDraws();
        due("feed(256)", x.feed(256), BAD);
        due("feed(-1)", x.feed(-1), BAD);
        due("feed(0)", x.feed(0), 1);
        due("feed(255)", x.feed(255), 2);
        for (int i = 3; i <= 160; i++) {
            due("feed(32)", x.feed(32), i);
        }
        due("feed, full", x.feed(32), FULL);
        due("feed(256), full", x.feed(256), BAD);
        due("count(4)", x.count(4), 160);
    }

    private static void text() {
        promise = 13;
        JoinDraws x = new JoinDraws();
        due("an empty tape", x.text(), -100);
        due("a text", textOf(x, "fits 0;"), 1);
        due("the tape is empty then", x.count(4), 0);
        due("a fault", textOf(x, "fits 0"), -106);
        due("the tape is empty then, too", x.count(4), 0);
        due("texts", x.count(3), 2);
        for (int t = 2; t < 6; t++) {
            due("text " + t, textOf(x, "fits " + t + ";"), t);
        }
        due("full", textOf(x, "nonsense"), FULL);
        due("the tape stays", x.count(4), 8);
        due("full, ahead of all", x.text(), FULL);
        due("texts", x.count(3), 6);
        JoinDraws y = new JoinDraws();
        StringBuilder longest = new StringBuilder("fits 1");
        while (longest.length() < 157) {
            longest.append("+1");
        }
        longest.append(longest.length() == 158 ? "0;" : ";");
        while (longest.length() < 160) {
            longest.append(' ');
        }
        due("a text of 160", textOf(y, longest.toString()), 1);
        write(y, longest.substring(0, 160));
        due("a text cut after 160", y.feed(';'), FULL);
    }

    private static void fault(String text, int place) {
        JoinDraws x = new JoinDraws();
        due("fault of '" + text.replace("\n", "\\n") + "'", textOf(x, text), place < 0 ? 1 : -100 - place);
    }

    private static void faults() {
        promise = 13;
        fault("fits 1;", -1);
        fault(" \n fits\n1 ; \n", -1);
        fault("fits(a);", -1);
        fault("fits 1", 6);
        fault("fits 1 ", 7);
        fault("fits", 4);
        fault("fits ", 5);
        fault("fit 1;", 0);
        fault("fitsa;", 0);
        fault(" a;", 1);
        fault("; fits", 0);
        fault("fits;", 4);
        fault("fits fits;", 5);
        fault("fits 1;;", 7);
        fault("fits 1; a", 8);
        fault("fits 1 a;", 7);
        fault("fits a1;", 6);
        fault("fits 1a;", 6);
        fault("fits 9999;", -1);
        fault("fits 12345;", 5);
        fault("fits 00001;", 5);
        fault("fits 0001;", -1);
        fault("fits g;", 5);
        fault("fits A;", 5);
        fault("fits ab;", 5);
        fault("fits az;", 5);
        fault("fits za;", 5);
        fault("fits rows;", 5);
        fault("fits row+from*copies%f-e<d;", -1);
        fault("fits a\t;", 6);
        fault("fits a\r;", 6);
        fault("fits \u00e9;", 5);
        fault("fits a!;", 6);
        fault("fits a and;", 10);
        fault("fits a or or b;", 10);
        fault("fits and a;", 5);
        fault("fits a not b;", 7);
        fault("fits a < not b;", 9);
        fault("fits a + not b;", 9);
        fault("fits a * not b;", 9);
        fault("fits - not b;", 7);
        fault("fits a < b < c;", 11);
        fault("fits a = b < c;", 11);
        fault("fits a = b = c;", 11);
        fault("fits a < b = c;", 11);
        fault("fits a < b and c = d or e < f;", -1);
        fault("fits (a < b) < c;", -1);
        fault("fits not not a < b and not c;", -1);
        fault("fits a +;", 8);
        fault("fits + a;", 5);
        fault("fits a - - b;", -1);
        fault("fits a * - b;", -1);
        fault("fits a * * b;", 9);
        fault("fits a ** b;", 8);
        fault("fits ();", 6);
        fault("fits (a;", 7);
        fault("fits a);", 6);
        fault("fits (a));", 8);
        fault("fits (a", 7);
        fault("fits (((((a)))));", -1);
        fault("fits ((((((a))))));", 10);
        fault("fits -----a;", -1);
        fault("fits ------a;", 10);
        fault("fits not not not not not a;", -1);
        fault("fits not not not not not not a;", 25);
        fault("fits not(-(-(a;", 12);
        fault("fits not(-(-a)) ;", -1);
        fault("fits not(-(-(a)));", 12);
        fault("fits not not(-(-a));", 15);
        fault("fits -(-(-1)) + -(-(-2));", -1);
        fault("fits not not not(a) and not not not(b);", -1);
        fault("fits (((((a)))) + (b));", -1);
        fault("fits not not not not not a = (b);", 29);
        fault("fits ----(a) - (((((b)))));", -1);
        fault("fits a - - - - - - - b;", 19);
        fault("fits a - - - - - - b;", -1);
    }

    /** Of a row of relation 1 (b d f) with values 3, 0, 7, number 1, 2000000000 copies. */
    private static void tells(String text, boolean is) {
        JoinDraws x = new JoinDraws();
        x.relation(BAG, 1);
        x.relation(BAG, 42);
        x.row(1, 0, 0, 0, 1);
        x.row(1, 3, 0, 7, MOST);
        x.force(textOf(x, text));
        due("'" + text + "'", x.told(1, 1, 5), is ? 1 : 0);
    }

    private static void tellings() {
        promise = 13;
        tells("fits 1;", true);
        tells("fits 0;", false);
        tells("fits -1;", true);
        tells("fits 0000;", false);
        tells("fits a = -1 and c = -1 and e = -1;", true);
        tells("fits b = 3 and d = 0 and f = 7;", true);
        tells("fits row = 1 and from = 1;", true);
        tells("fits row - 1 or from - 1;", false);
        tells("fits copies - 2000 * 1000 * 1000;", false);
        tells("fits copies + copies < 0;", true);
        tells("fits copies + copies = -(2949 * 100 * 1000 + 6729 * 10 + 6);", true);
        tells("fits 1 + 2 * 3 = 7;", true);
        tells("fits (1 + 2) * 3 = 9;", true);
        tells("fits 9 - 3 - 2 = 4;", true);
        tells("fits 7 % 4 * 2 = 6;", true);
        tells("fits 2 * 7 % 4 = 2;", true);
        tells("fits -7 % 4 = -3;", true);
        tells("fits 7 % -4 = 3;", true);
        tells("fits 7 % 0 = 0;", true);
        tells("fits -2 * 3 = -6;", true);
        tells("fits (-2147 * 1000 * 1000 - 4836 * 100 - 48) % -1 = 0;", true);
        tells("fits 2 < 3;", true);
        tells("fits 3 < 3;", false);
        tells("fits 4 < 3;", false);
        tells("fits 3 = 3;", true);
        tells("fits 3 = 4;", false);
        tells("fits (2 < 3) = 1;", true);
        tells("fits (3 = 3) + (2 < 3) = 2;", true);
        tells("fits (2 or 0) = 1;", true);
        tells("fits (0 or 0) = 0;", true);
        tells("fits (2 and 3) = 1;", true);
        tells("fits (2 and 0) = 0;", true);
        tells("fits (0 and 3) = 0;", true);
        tells("fits (not 2) = 0;", true);
        tells("fits (not 0) = 1;", true);
        tells("fits (0 or 5) = 1;", true);
        tells("fits (4) = 4;", true);
        tells("fits not 0 = 1;", true);
        tells("fits not 1 = 1;", false);
        tells("fits not 0 and 0;", false);
        tells("fits 1 or 0 and 0;", true);
        tells("fits 0 and 0 or 1;", true);
        tells("fits (1 or 0) and 0;", false);
        tells("fits not not 5 = 5;", true);
        tells("fits 0012 = 12;", true);
        tells("fits 5 - -5 = 10;", true);
        tells("fits - - 5 = 5;", true);
    }

    private static void force() {
        promise = 14;
        JoinDraws x = pair();
        due("force(1), none such", x.force(1), BAD);
        due("force(-1)", x.force(-1), BAD);
        due("force(0)", x.force(0), 0);
        textOf(x, "fits not (row = 0 and from = 0);");
        due("answers", x.answers(), 30);
        due("force(1)", x.force(1), 0);
        due("count(5)", x.count(5), 1);
        due("answers then", x.answers(), 24);
        due("force(2)", x.force(2), BAD);
        due("force(0)", x.force(0), 1);
        due("answers again", x.answers(), 30);
    }

    // ---- 15 .. 22: weights, positions

    private static void weight() {
        promise = 15;
        JoinDraws x = ring();
        long[][] due = {{1, 2, 3}, {4, 4, 2, 20}};
        for (int r = 0; r < 2; r++) {
            for (int i = 0; i < due[r].length; i++) {
                due("weight(" + r + ", " + i + ")", x.weight(r, i), due[r][i]);
            }
        }
        due("of a check", x.weight(2, 0), NO);
        due("no row", x.weight(0, 3), NO);
        due("row -1", x.weight(0, -1), NO);
        due("no relation", x.weight(3, 0), NO);
        x.remove(0, 0);
        due("of a removed one", x.weight(0, 0), 0);
        due("of its parent", x.weight(1, 0), 3);
        x.query(1);
        due("not asked", x.weight(1, 0), NO);
        x.query(0);
        due("none asked", x.weight(0, 0), NO);
        due("great", great().weight(0, 0), NO);
        JoinDraws y = new JoinDraws();
        y.relation(DOUBLED, 7);
        y.row(0, 1, 2, 3, 5);
        for (int r = 1; r < 4; r++) {
            y.relation(BAG, 1 << r - 1);
            y.row(r, r, 0, 0, r);
            y.row(r, r, 0, 0, 1);
        }
        y.query(7);
        due("of the first, of which the third is the parent", y.weight(0, 0), 20);
        y.query(15);
        due("of a child with children", y.weight(0, 0), 60);
        due("of the root", y.weight(3, 0), 180);
        due("of the root's other", y.weight(3, 1), 60);
    }

    private static void bound() {
        promise = 16;
        JoinDraws x = ring();
        due("bound(2)", x.bound(2), 9);
        due("of a kept one", x.bound(0), NO);
        due("no relation", x.bound(3), NO);
        due("relation -1", x.bound(-1), NO);
        x.row(2, 2, 6, 0, 8);
        due("a heap of two", x.bound(2), 10);
        x.row(2, 1, 6, 0, 3);
        due("heaped by both values", x.bound(2), 10);
        x.force(textOf(x, "fits from < 2 or row = 2;"));
        due("of those that pass", x.bound(2), 1);
        x.force(textOf(x, "fits from < 2;"));
        due("of none", x.bound(2), 0);
        due("space of none", x.space(), 0);
        x.query(4);
        due("alone", x.bound(2), NO);
        x.query(0);
        due("none asked", x.bound(2), NO);
        JoinDraws y = of(3, 6, 13, 40);
        y.query(7);
        y.row(2, 1, 1, 0, 2);
        y.row(2, 1, 1, 5, 3);
        y.row(2, 1, 2, 5, 4);
        due("heaped by what is seen: d is not", y.bound(2), 5);
        JoinDraws late = of(6, 12, 11);
        late.row(2, 1, 1, 1, 2);
        late.row(2, 2, 1, 1, 3);
        late.row(2, 2, 2, 1, 4);
        due("heaped by what is seen: a is not", late.bound(2), 5);
        JoinDraws z = of(3, 6, 13, 13);
        z.row(2, 1, 1, 0, 2);
        z.row(2, 1, 1, 5, 3);
        z.row(3, 1, 1, 0, 2);
        z.row(3, 1, 1, 5, 3);
        due("the first check", z.bound(2), 5);
        due("the second, d is seen then", z.bound(3), 3);
        JoinDraws g = ring();
        g.copies(0, 0, MOST);
        due("not great", g.bound(2), 9);
        g.copies(1, 0, MOST);
        due("great", g.bound(2), NO);
    }

    private static void space() {
        promise = 17;
        due("of a pair", pair().space(), 30);
        due("of a ring", ring().space(), 270);
        due("of rows apart", apart().space(), 0);
        due("great", great().space(), NO);
        due("empty", new JoinDraws().space(), NO);
        JoinDraws x = of(1);
        due("of no rows", x.space(), 0);
    }

    /** Sums and products that are just not, and just, above the longest. */
    private static void greatEdges() {
        promise = 17;
        JoinDraws x = of(1, 2);
        x.row(0, 1, 0, 0, MOST);
        x.row(1, 1, 0, 0, MOST);
        due("4 * 10 ^ 18", x.space(), 4000000000000000000L);
        x.row(0, 2, 0, 0, MOST);
        due("8 * 10 ^ 18", x.space(), 8000000000000000000L);
        x.row(0, 3, 0, 0, 611686018);
        due("9223372036000000000", x.space(), 9223372036000000000L);
        x.copies(0, 2, 611686019);
        due("9223372038 * 10 ^ 9", x.space(), NO);
        due("great", x.shape(3), 1);
        // 9223372036854775807 = 7 * 7 * 73 * 127 * 337 * 92737 * 649657
        JoinDraws y = of(1, 2, 4);
        y.row(0, 1, 0, 0, 7 * 7 * 73 * 127 * 337);
        y.row(1, 1, 0, 0, 92737);
        y.row(2, 1, 0, 0, 649657);
        due("the longest, a product", y.space(), Long.MAX_VALUE);
        due("answers", y.answers(), Long.MAX_VALUE);
        due("its last position", y.at(Long.MAX_VALUE - 1, 1), 111);
        due("find(111)", y.find(111), 0);
        y.row(2, 1, 0, 0, 1);
        due("above it, a sum", y.space(), NO);
        JoinDraws z = of(1, 3, 2);
        z.row(0, 1, 0, 0, MOST);
        z.row(1, 1, 1, 0, MOST);
        for (int i = 0; i < 5; i++) {
            z.row(1, 1, 2 + i, 0, MOST);
        }
        z.row(2, 1, 0, 0, 1);
        due("weights not asked for still have no sum", z.space(), 4000000000000000000L);
        z.query(3);
        due("their sum is above", z.shape(3), 1);
        JoinDraws w = of(1, 2, 4);
        w.row(0, 1, 0, 0, MOST);
        w.row(1, 1, 0, 0, MOST);
        due("a relation without rows: 0", w.space(), 0);
        w.row(2, 1, 0, 0, MOST);
        due("great", w.shape(3), 1);
        w.force(textOf(w, "fits from;"));
        due("0 times what is great", w.space(), 0);
        greatAheadOfZero();
    }

    /** A product above the longest is GREAT, though a factor behind it is 0; a 0 ahead keeps it from it. */
    private static void greatAheadOfZero() {
        JoinDraws x = new JoinDraws();
        x.relation(BAG, 1);
        x.relation(BAG, 2);
        x.relation(BAG, 4);
        x.relation(BAG, 7);
        x.query(15);
        x.row(3, 1, 1, 1, MOST);
        x.row(0, 1, 0, 0, MOST);
        x.row(1, 1, 0, 0, MOST);
        due("root", x.shape(2), 3);
        due("great ahead of 0", x.shape(3), 1);
        x.remove(0, 0);
        due("0 ahead", x.shape(3), 0);
        due("0 ahead, space", x.space(), 0);
        x.row(2, 1, 0, 0, MOST);
        due("0 ahead of all", x.space(), 0);
        JoinDraws y = ring();
        for (int i = 0; i < 4; i++) {
            y.copies(1, i, MOST);
        }
        y.copies(0, 0, MOST);
        y.copies(0, 1, MOST);
        y.copies(0, 2, 1);
        y.query(3);
        due("all is above", y.shape(3), 1);
    }

    private static void answers() {
        promise = 18;
        due("of a pair", pair().answers(), 30);
        due("of a ring", ring().answers(), 50);
        due("of rows apart", apart().answers(), 0);
        due("great", great().answers(), NO);
        due("empty", new JoinDraws().answers(), NO);
        JoinDraws x = ring();
        x.query(2);
        due("of one", x.answers(), 9);
        x.query(5);
        due("of a part", x.answers(), 3 * 10 + 3 * 2);
        x.query(7);
        x.force(textOf(x, "fits not (from = 2 and row = 0);"));
        due("by a rule", x.answers(), 5);
    }

    private static void at() {
        promise = 19;
        JoinDraws x = pair();
        int[] digits = {11, 31, 31, 31, 22, 22, 22, 22, 23, 23, 14, 34, 34, 34, 14, 34};
        for (int p = 0; p < digits.length; p++) {
            due("at(" + p + ", 1)", x.at(p, 1), digits[p]);
        }
        due("at(29, 1)", x.at(29, 1), 34);
        int[] of5 = {1, 22, 1, 3, 5, -1, -1, -1};
        for (int what = 0; what < 8; what++) {
            due("at(5, " + what + ")", x.at(5, what), of5[what]);
        }
        due("at(30, 0)", x.at(30, 0), BAD);
        due("at(-1, 0)", x.at(-1, 0), BAD);
        due("at(max, 0)", x.at(Long.MAX_VALUE, 0), BAD);
        due("at(min, 0)", x.at(Long.MIN_VALUE, 0), BAD);
        due("at(0, 8)", x.at(0, 8), BAD);
        due("at(0, -1)", x.at(0, -1), BAD);
        due("at(-1, 8), empty", new JoinDraws().at(-1, 8), BAD);
        due("at(-1, 0), empty", new JoinDraws().at(-1, 0), STATE);
        due("at(-1, 8), great", great().at(-1, 8), BAD);
        due("at(-1, 0), great", great().at(-1, 0), GREAT);
        due("at(0, 0), space 0", apart().at(0, 0), BAD);
        JoinDraws y = ring();
        int good = 0;
        for (int p = 0; p < 270; p++) {
            good += y.at(p, 0);
        }
        due("good ones of a ring", good, 50);
        due("at(20, 0)", y.at(20, 0), 0);
        due("at(20, 1)", y.at(20, 1), -1);
        due("at(20, 2)", y.at(20, 2), -1);
        due("at(8, 1)", y.at(8, 1), 111);
        due("at(9, 1)", y.at(9, 1), -1);
        due("at(36, 1)", y.at(36, 1), 221);
        due("at(36, 4)", y.at(36, 4), 5);
        due("at(36, 5)", y.at(36, 5), -1);
        y.force(textOf(y, "fits not (from = 2 and row = 0);"));
        due("by a rule: the space", y.space(), 60);
        due("by a rule: at(20, 0)", y.at(20, 0), 1);
        due("by a rule: at(20, 1)", y.at(20, 1), 143);
        due("by a rule: at(21, 0)", y.at(21, 0), 0);
    }

    /** The last child's part of a position is told first. */
    private static void atWithManyChildren() {
        promise = 19;
        JoinDraws x = of(1, 2, 3);
        x.row(0, 1, 0, 0, 2);
        x.row(0, 1, 0, 0, 1);
        x.row(1, 1, 0, 0, 1);
        x.row(1, 1, 0, 0, 4);
        x.row(2, 1, 1, 0, 2);
        due("space", x.space(), 30);
        int[] digits = {111, 121, 121, 121, 121, 111, 121, 121, 121, 121, 211, 221, 221, 221, 221, 111};
        for (int p = 0; p < digits.length; p++) {
            due("at(" + p + ", 1)", x.at(p, 1), digits[p]);
        }
        due("find(221)", x.find(221), 11);
        due("find(211)", x.find(211), 10);
        due("find(121)", x.find(121), 1);
        due("find(111)", x.find(111), 0);
    }

    private static void find() {
        promise = 20;
        JoinDraws x = pair();
        long[][] due = {{11, 0}, {31, 1}, {22, 4}, {23, 8}, {14, 10}, {34, 11}};
        for (long[] d : due) {
            due("find(" + d[0] + ")", x.find((int) d[0]), d[1]);
        }
        int[] none = {0, -11, 1, 10, 20, 21, 12, 41, 15, 99, 111, 110, 1011, 100011, 19, Integer.MAX_VALUE, Integer.MIN_VALUE};
        for (int d : none) {
            due("find(" + d + ")", x.find(d), NO);
        }
        due("empty", new JoinDraws().find(0), NO);
        due("great", great().find(111), NO);
        JoinDraws y = ring();
        for (int p = 0; p < 270; p++) {
            int digits = y.at(p, 1);
            if (digits != -1) {
                long least = y.find(digits);
                due("the answer at find(" + digits + ")", y.at(least, 1), digits);
                due("find(" + digits + ") is at most " + p, least <= p ? 1 : 0, 1);
            }
        }
        due("find(111) of a ring", y.find(111), 0);
        due("find(221) of a ring", y.find(221), 36);
        due("find(143) of a ring", y.find(143), 90);
        due("a check that does not match", y.find(112), NO);
        y.query(5);
        due("of relations 0 and 2", y.at(y.find(13), 1), 13);
        y.query(6);
        due("of relations 1 and 2", y.at(y.find(32), 1), 32);
        x.remove(0, 0);
        due("a removed row", x.find(11), NO);
        JoinDraws z = of(3, 6, 5);
        z.row(0, 1, 2, 0, 1);
        z.row(1, 2, 3, 0, 1);
        z.row(2, 1, 3, 0, 2);
        z.row(2, 1, 3, 0, 3);
        due("rows of a check alike", z.find(112), 2);
        due("the first of these", z.find(111), 0);
        due("the last position", z.at(4, 1), 112);
        JoinDraws w = of(3, 6, 5);
        w.row(0, 4, 2, 0, 1);
        w.row(0, 2, 2, 0, 1);
        w.row(1, 1, 3, 0, 1);
        w.row(1, 2, 3, 0, 2);
        w.row(2, 4, 3, 0, 7);
        w.row(2, 2, 3, 0, 5);
        due("rows of a check that do not match are not ahead", w.find(222), 7);
        due("the same position leads there", w.at(7, 1), 222);
        due("find(121)", w.find(121), 0);
        due("space", w.space(), 28);
        JoinDraws v = of(1, 2, 3);
        v.row(0, 5, 0, 0, 1);
        v.row(0, 2, 0, 0, 4);
        v.row(0, 2, 0, 0, 5);
        v.row(1, 1, 0, 0, 2);
        v.row(1, 3, 0, 0, 3);
        v.row(1, 3, 0, 0, 1);
        v.row(2, 5, 1, 0, 2);
        v.row(2, 2, 3, 0, 1);
        due("of the root's second row", v.find(332), 4 + 4 * 4 + 3);
        due("the same position leads there", v.at(23, 1), 332);
        due("the one ahead does not", v.at(22, 1), 322);
    }

    private static void draw() {
        promise = 21;
        JoinDraws x = pair();
        due("draw(5, 0)", x.draw(5, 0), 34);
        due("draw(5, 1)", x.draw(5, 1), 1);
        due("draw(0, 2)", x.draw(0, 2), BAD);
        due("draw(0, -1)", x.draw(0, -1), BAD);
        JoinDraws e = new JoinDraws();
        due("empty", e.draw(0, 0), STATE);
        due("empty, bad", e.draw(0, 2), BAD);
        due("great", great().draw(0, 0), GREAT);
        due("great, bad", great().draw(0, 2), BAD);
        due("space 0", apart().draw(0, 0), STATE);
        due("space 0, bad", apart().draw(0, 2), BAD);
        JoinDraws y = ring();
        due("draw(3, 0)", y.draw(3, 0), 111);
        due("draw(3, 1)", y.draw(3, 1), 3);
        JoinDraws one = of(1);
        one.row(0, 4, 0, 0, 1);
        due("a space of 1", one.draw(-7, 0), 1);
        due("a space of 1", one.draw(-7, 1), 1);
        JoinDraws none = of(3, 6, 5);
        none.row(0, 1, 2, 0, 1);
        none.row(1, 2, 3, 0, 1);
        none.row(2, 1, 4, 0, 1);
        due("no good position", none.draw(1, 0), -1);
        due("20 are drawn", none.draw(1, 1), 20);
        due("answers", none.answers(), 0);
        due("space", none.space(), 1);
    }

    private static int z;

    private static long below(long n) {
        int bits = 64 - Long.numberOfLeadingZeros(n - 1);
        long v = 0;
        for (int t = 0; t < 30; t++) {
            v = 0;
            for (int i = 0; i < bits; i++) {
                z = z * 1103515245 + 12345;
                v = 2 * v + (z >>> 16 & 1);
            }
            if (v < n) {
                return v;
            }
        }
        return v % n;
    }

    private static void drawAnew() {
        promise = 21;
        int[] copies = {3, 5, 17, 33, 65537, 1 << 30, (1 << 30) + 1, MOST};
        for (int n : copies) {
            JoinDraws x = of(1);
            int first = n / 2 + 1;
            x.row(0, 0, 0, 0, first);
            x.row(0, 1, 0, 0, n - first);
            for (int seed = -20; seed < 20; seed++) {
                z = seed * 7919;
                due("draw of " + n + " by " + seed * 7919, x.draw(seed * 7919, 0), below(n) < first ? 1 : 2);
            }
        }
        JoinDraws x = of(1);
        x.row(0, 0, 0, 0, 2);
        x.row(0, 1, 0, 0, 1);
        due("numbers drawn anew are no positions", x.draw(44756, 1), 1);
        long[][] seeds = {{3, 44756}, {5, 20562}, {17, 8172}, {32769, 7204}, {65537, 89948}, {2097153, 34774}};
        for (long[] s : seeds) {
            JoinDraws y = of(1);
            int first = (int) (s[0] / 2);
            y.row(0, 0, 0, 0, first);
            y.row(0, 1, 0, 0, (int) s[0] - first);
            z = (int) s[1];
            due("draw of " + s[0] + ", long drawn anew", y.draw((int) s[1], 0), below(s[0]) < first ? 1 : 2);
        }
    }

    private static void shuffle() {
        promise = 22;
        JoinDraws x = pair();
        long[] nine = {14, 12, 18, 4};
        for (int i = 0; i < 4; i++) {
            due("shuffle(9, 4, " + i + ")", x.shuffle(9, 4, i), nine[i]);
            due("shuffle(9, 8, " + i + ")", x.shuffle(9, 8, i), nine[i]);
        }
        due("n 9", x.shuffle(9, 9, 0), NO);
        due("n 0", x.shuffle(9, 0, 0), NO);
        due("i 4", x.shuffle(9, 4, 4), NO);
        due("i -1", x.shuffle(9, 4, -1), NO);
        due("empty", new JoinDraws().shuffle(9, 1, 0), NO);
        due("great", great().shuffle(9, 1, 0), NO);
        due("space 0", apart().shuffle(9, 1, 0), NO);
        for (int n = 1; n <= 8; n++) {
            JoinDraws y = of(1);
            y.row(0, 1, 0, 0, n);
            due("space of " + n + " is too small", y.shuffle(1, n + 1, 0), NO);
            for (int seed = 0; seed < 10; seed++) {
                long[] places = {0, 1, 2, 3, 4, 5, 6, 7};
                z = seed;
                for (int i = 0; i < n; i++) {
                    int j = i + (int) below(n - i);
                    long at = places[i];
                    places[i] = places[j];
                    places[j] = at;
                }
                for (int i = 0; i < n; i++) {
                    due("shuffle(" + seed + ", " + n + ", " + i + ")", y.shuffle(seed, n, i), places[i]);
                }
            }
        }
    }

    // ---- 23 .. 31: what the answers are

    private static void odds() {
        promise = 23;
        JoinDraws x = pair();
        due("odds(0, 0, 0)", x.odds(0, 0, 0), 1);
        due("odds(0, 0, 1)", x.odds(0, 0, 1), 5);
        due("odds(1, 3, 0)", x.odds(1, 3, 0), 2);
        due("odds(1, 3, 1)", x.odds(1, 3, 1), 3);
        due("part 2", x.odds(0, 0, 2), NO);
        due("part -1", x.odds(0, 0, -1), NO);
        due("no row", x.odds(0, 3, 0), NO);
        due("row -1", x.odds(0, -1, 0), NO);
        due("no relation", x.odds(2, 0, 0), NO);
        x.row(0, 1, 9, 0, 1);
        due("in none", x.odds(0, 3, 0), 0);
        due("in none, below", x.odds(0, 3, 1), 1);
        x.remove(0, 3);
        due("removed", x.odds(0, 3, 0), 0);
        x.query(1);
        due("not asked", x.odds(1, 0, 0), NO);
        x.query(0);
        due("none asked", x.odds(0, 0, 0), NO);
        due("great", great().odds(0, 0, 0), NO);
        due("no answer", apart().odds(0, 0, 0), NO);
        JoinDraws y = ring();
        due("of a ring", y.odds(2, 2, 0), 1);
        due("of a ring, below", y.odds(2, 2, 1), 10);
        JoinDraws one = of(1);
        one.row(0, 1, 0, 0, 6);
        due("in all", one.odds(0, 0, 0), 1);
        due("in all, below", one.odds(0, 0, 1), 1);
    }

    private static void values() {
        promise = 24;
        JoinDraws x = pair();
        long[][] due = {{0, 1, 12}, {0, 2, 18}, {0, 3, 0}, {1, 2, 24}, {1, 3, 6}, {2, 5, 8}, {2, 6, 2}, {2, 7, 20}, {2, 9, 0}, {2, 0, 0}};
        for (long[] d : due) {
            due("values(" + d[0] + ", " + d[1] + ")", x.values((int) d[0], (int) d[1]), d[2]);
        }
        due("no such attribute", x.values(6, 0), NO);
        due("attribute -1", x.values(-1, 0), NO);
        due("no such value", x.values(0, 10), NO);
        due("value -1", x.values(0, -1), NO);
        due("not of the query", x.values(3, 0), NO);
        due("great", great().values(0, 0), NO);
        due("no answer", apart().values(0, 1), 0);
        x.query(0);
        due("empty", x.values(0, 1), NO);
    }

    private static void likeliest() {
        promise = 25;
        JoinDraws x = pair();
        due("likeliest(0)", x.likeliest(0), 2);
        due("likeliest(1)", x.likeliest(1), 2);
        due("likeliest(2)", x.likeliest(2), 7);
        due("likeliest(3)", x.likeliest(3), STATE);
        due("likeliest(6)", x.likeliest(6), BAD);
        due("likeliest(-1)", x.likeliest(-1), BAD);
        due("no answer", apart().likeliest(0), -1);
        due("great", great().likeliest(0), GREAT);
        due("great, not of it", great().likeliest(3), STATE);
        due("empty", new JoinDraws().likeliest(0), STATE);
        due("empty, none such", new JoinDraws().likeliest(6), BAD);
        JoinDraws y = of(1);
        y.row(0, 9, 0, 0, 4);
        y.row(0, 3, 0, 0, 4);
        y.row(0, 0, 0, 0, 3);
        due("of like ones the least", y.likeliest(0), 3);
        y.copies(0, 2, 4);
        due("0 too", y.likeliest(0), 0);
        y.copies(0, 0, 5);
        due("9 too", y.likeliest(0), 9);
        JoinDraws once = of(1);
        once.row(0, 7, 0, 0, 1);
        due("once is enough", once.likeliest(0), 7);
    }

    private static void dangling() {
        promise = 26;
        JoinDraws x = pair();
        due("none", x.dangling(0), 0);
        x.row(0, 1, 9, 0, 1);
        x.row(1, 8, 9, 0, 1);
        x.row(1, 7, 9, 0, 1);
        due("of 0", x.dangling(0), 8);
        due("of 1", x.dangling(1), 48);
        x.remove(1, 4);
        due("those that pass", x.dangling(1), 32);
        due("no relation", x.dangling(2), BAD);
        due("relation -1", x.dangling(-1), BAD);
        x.query(2);
        due("not asked", x.dangling(0), STATE);
        due("alone", x.dangling(1), 0);
        due("great", great().dangling(0), GREAT);
        JoinDraws y = ring();
        due("a ring, of 0", y.dangling(0), 4);
        due("a ring, of 1", y.dangling(1), 4);
        due("a ring, of 2", y.dangling(2), 2);
        due("apart", apart().dangling(0), 1);
    }

    private static void without() {
        promise = 27;
        JoinDraws x = pair();
        due("without(0, 0)", x.without(0, 0), 24);
        due("without(1, 2)", x.without(1, 2), 28);
        due("it is as it was", x.answers(), 30);
        due("live", x.about(0, 3), 7);
        due("no row", x.without(0, 3), NO);
        due("row -1", x.without(0, -1), NO);
        due("no relation", x.without(2, 0), NO);
        x.relation(LOG, 8);
        x.row(2, 1, 0, 0, 2);
        due("not asked", x.without(2, 0), 30);
        x.query(7);
        due("of a log, all the same", x.without(2, 0), 0);
        due("live", x.about(2, 3), 1);
        x.remove(0, 0);
        due("removed", x.without(0, 0), NO);
        x.query(0);
        due("empty", x.without(0, 1), NO);
        JoinDraws g = great();
        due("great then", g.without(0, 0), 0);
        g.row(0, 9, 0, 0, 1);
        due("great still", g.without(0, 1), NO);
        g.copies(1, 0, 3);
        g.copies(2, 0, 1);
        g.row(2, 9, 0, 0, MOST);
        due("great", g.answers(), NO);
        due("great no more then", g.without(2, 1), 3L * (MOST + 1L));
    }

    private static void key() {
        promise = 28;
        JoinDraws x = pair();
        due("key(0)", x.key(0), 11);
        due("key(1)", x.key(1), 10);
        due("key(2)", x.key(2), NO);
        due("key(-1)", x.key(-1), NO);
        due("empty", new JoinDraws().key(0), NO);
        due("great", great().key(0), NO);
        JoinDraws y = ring();
        due("of a ring", y.key(0), 16);
        due("of a ring, then", y.key(1), 5);
        JoinDraws a = apart();
        due("no answer: the first", a.key(0), 0);
        due("no answer: 0", a.key(1), 0);
        a.remove(0, 0);
        due("the first that is live", a.key(0), 8);
        a.remove(1, 0);
        due("none is live", a.key(0), NO);
        JoinDraws b = of(1, 2);
        b.row(0, 1, 0, 0, 2);
        b.row(0, 1, 0, 0, 2);
        b.row(1, 1, 0, 0, 3);
        due("only one of 1", b.key(0), 8);
        b.query(1);
        due("of like ones the first", b.key(0), 0);
        due("then", b.key(1), 2);
        b.force(textOf(b, "fits row = 1;"));
        due("one that passes", b.key(0), 1);
        b.force(textOf(b, "fits 0;"));
        due("live ones that do not pass, too", b.key(0), 0);
        b.query(2);
        due("of the query", b.key(0), 8);
    }

    private static void strip() {
        promise = 29;
        JoinDraws x = ring();
        lay(x, 0, 0, 0, 9, 16, 1);
        due("strip(0, 0)", x.strip(0, 0), 4);
        int[] slate = {1, 16, 9, 0, -99};
        for (int i = 0; i < slate.length; i++) {
            due("slate(" + i + ")", x.slate(i), slate[i]);
        }
        due("all live again", x.count(2), 10);
        due("answers", x.answers(), 50);
        due("enough by the second", x.strip(0, 5), 102);
        due("slate", x.count(7), 2);
        due("answers", x.answers(), 50);
        due("without(0, 0)", x.without(0, 0), 36);
        due("just enough not", x.strip(0, 0), 4);
        due("36 is not below 36", x.strip(0, 36), 102);
        due("36 is below 37", x.strip(0, 37), 101);
        due("far below", x.strip(0, Long.MAX_VALUE), 101);
        x.put(0, 2, 31);
        due("no such row", x.strip(0, 0), -22);
        due("slate(0)", x.slate(0), 9);
        due("slate(1)", x.slate(1), 0);
        due("slate(2)", x.slate(2), -99);
        due("live", x.count(2), 10);
        x.put(0, 2, 9);
        due("one twice", x.strip(0, 0), -22);
        x.put(0, 0, -1);
        due("below 0", x.strip(0, 0), -20);
        due("the slate is empty then", x.count(7), 0);
        x.put(0, 0, 1L << 32);
        due("far above", x.strip(0, 0), -20);
        x.put(0, 0, 32);
        due("above", x.strip(0, 0), -20);
        x.put(0, 0, 24);
        due("no relation", x.strip(0, 0), -20);
        stripRefused();
    }

    private static void stripRefused() {
        JoinDraws x = ring();
        lay(x, 0, 0, 1, 9);
        x.strip(0, 0);
        due("sheet 4", x.strip(4, 0), BAD);
        due("sheet -1", x.strip(-1, 0), BAD);
        due("r -1", x.strip(0, -1), BAD);
        due("missing", x.strip(1, 0), -11);
        due("missing, r -1", x.strip(1, -1), BAD);
        x.sheet(1, 1, 13);
        due("13 items", x.strip(1, 0), BAD);
        due("refused ones leave the slate", x.count(7), 2);
        x.sheet(1, 1, 12);
        due("12 items: row 0 twice", x.strip(1, 0), -21);
        x.sheet(1, 2, 0);
        due("no items", x.strip(1, 5), 0);
        due("the slate is empty then", x.count(7), 0);
        x.query(0);
        due("empty", x.strip(0, 0), STATE);
        due("empty, missing", x.strip(2, 0), STATE);
        due("empty, 13 items", x.strip(1, 0), STATE);
        due("empty, sheet 4", x.strip(4, 0), BAD);
        JoinDraws g = great();
        lay(g, 0, 0, 0, 8);
        due("not if great, but none then", g.strip(0, 5), 101);
        g.row(0, 8, 0, 0, 1);
        lay(g, 0, 0, 1, 0);
        due("great still by the first", g.strip(0, 5), 102);
        due("slate(0)", g.slate(0), 0);
        due("r 0", g.strip(0, 0), 2);
        lay(g, 1, 0, 1);
        due("great still", g.strip(1, Long.MAX_VALUE), 1);
        JoinDraws k = new JoinDraws();
        k.relation(KEYED, 1);
        k.row(0, 1, 0, 0, 1);
        k.remove(0, 0);
        k.row(0, 1, 0, 0, 1);
        k.query(1);
        lay(k, 0, 2, 1, 0);
        due("a removed one", k.strip(0, 0), -21);
        due("live", k.about(0, 3), 2);
        JoinDraws twelve = of(1, 2);
        for (int i = 0; i < 6; i++) {
            twelve.row(0, i, 0, 0, 1);
            twelve.row(1, i, 0, 0, 1);
        }
        lay(twelve, 0, 2, 0, 1, 2, 3, 4, 5, 8, 9, 10, 11, 12, 13);
        due("12 trials", twelve.strip(0, 0), 12);
        due("slate(0)", twelve.slate(0), 13);
        due("slate(11)", twelve.slate(11), 0);
        due("slate(12)", twelve.slate(12), -99);
        due("enough by the sixth", twelve.strip(0, 1), 106);
    }

    private static void slate() {
        promise = 30;
        JoinDraws x = pair();
        due("slate(0)", x.slate(0), -99);
        lay(x, 0, 1, 10, 2);
        x.strip(0, 0);
        due("slate(0)", x.slate(0), 2);
        due("slate(1)", x.slate(1), 10);
        due("slate(2)", x.slate(2), -99);
        due("slate(-1)", x.slate(-1), -99);
        due("slate(max)", x.slate(Integer.MAX_VALUE), -99);
    }

    private static void lot() {
        promise = 31;
        JoinDraws x = pair();
        for (int seed : new int[] {0, 77, Integer.MAX_VALUE - 2, -4}) {
            int ones = 0;
            for (int m = 1; m <= 20; m++) {
                ones += x.at(x.find(x.draw(seed + m - 1, 0)), 2) == 1 ? 1 : 0;
                long above = x.lot(seed, m, 0, 1, 0);
                long below = x.lot(seed, m, 0, 1, 1);
                due("lot(" + seed + ", " + m + ")", above * m, ones * below);
                due("in lowest terms", java.math.BigInteger.valueOf(above).gcd(java.math.BigInteger.valueOf(below)).intValue(), 1);
            }
        }
        due("m 0", x.lot(0, 0, 0, 1, 0), NO);
        due("m 21", x.lot(0, 21, 0, 1, 0), NO);
        due("part 2", x.lot(0, 1, 0, 1, 2), NO);
        due("part -1", x.lot(0, 1, 0, 1, -1), NO);
        due("not of the query", x.lot(0, 1, 3, 1, 0), NO);
        due("no such attribute", x.lot(0, 1, 6, 1, 0), NO);
        due("attribute -1", x.lot(0, 1, -1, 1, 0), NO);
        due("a value that none has", x.lot(0, 6, 0, 10, 0), 0);
        due("a value that none has, below", x.lot(0, 6, 0, 10, 1), 1);
        due("value -1", x.lot(0, 6, 0, -1, 0), 0);
        due("great", great().lot(0, 1, 0, 0, 0), NO);
        due("space 0", apart().lot(0, 1, 0, 1, 0), NO);
        due("empty", new JoinDraws().lot(0, 1, 0, 0, 0), NO);
        JoinDraws none = of(3, 6, 5);
        none.row(0, 1, 2, 0, 1);
        none.row(1, 2, 3, 0, 1);
        none.row(2, 1, 4, 0, 1);
        due("no answer drawn", none.lot(0, 3, 0, 1, 0), 0);
        due("no answer drawn, value -1", none.lot(0, 3, 0, -1, 0), 0);
    }

    // ---- 32 .. 36: what was told

    private static void tells() {
        promise = 32;
        JoinDraws x = ring();
        textOf(x, "fits not (from = 0 and row = 2);");
        textOf(x, "fits not (from = 2 and row = 0);");
        x.film(0, 12);
        due("all", x.tells(0, 0), -1);
        due("queries", x.tells(0, 2), 128);
        x.film(0, 6);
        int texts = x.tells(0, 1);
        due("text 0", texts & 1, 1);
        due("not text 2", texts & 4, 0);
        x.sheet(1, 0, 0);
        due("nothing: by all texts", x.tells(1, 1), 7);
        due("nothing: by all queries", x.tells(1, 2), 254);
        due("nothing: none otherwise", x.tells(1, 0), -1);
        x.put(0, 3, 999);
        due("the fourth", x.tells(0, 0), 3);
        due("no text", x.tells(0, 1), 0);
        due("no query", x.tells(0, 2), 0);
        x.put(0, 1, 999);
        due("the second", x.tells(0, 0), 1);
        lay(x, 2, 0, (1L << 32) + x.draw(0, 0));
        due("a long is no int", x.tells(2, 0), 0);
        lay(x, 2, 0, -1);
        textOf(x, "fits 0;");
        due("none by no rows", x.tells(2, 1), 8);
        due("sheet 4", x.tells(4, 0), BAD);
        due("sheet -1", x.tells(-1, 0), BAD);
        due("what 3", x.tells(0, 3), BAD);
        due("what -1", x.tells(0, -1), BAD);
        due("missing", x.tells(3, 0), -11);
        x.sheet(3, 1, 13);
        due("13", x.tells(3, 0), BAD);
        x.force(3);
        due("queries of which none has answers", x.tells(2, 2), 254);
        x.query(0);
        due("empty", x.tells(0, 0), STATE);
        due("empty, bad", x.tells(0, 3), BAD);
        x.sheet(3, -1, 0);
        due("empty, missing", x.tells(3, 0), STATE);
        JoinDraws g = great();
        due("great", g.tells(0, 0), GREAT);
        due("great, bad", g.tells(0, 3), BAD);
        g.sheet(0, 1, 0);
        g.query(3);
        textOf(g, "fits 0;");
        due("not by a great one: queries", g.tells(0, 2), 126);
        textOf(g, "fits 1;");
        due("texts", g.tells(0, 1), 7);
        g.force(1);
        g.query(7);
        due("not by a great one: texts", g.tells(0, 1), 2);
        due("by none but 0 ones", g.tells(0, 2), 254);
        due("the rule is as it was", g.count(5), 1);
        due("the query is as it was", g.count(6), 7);
    }

    private static void film() {
        promise = 33;
        JoinDraws x = ring();
        x.sheet(0, 0, 40);
        due("film(0, 12)", x.film(0, 12), 12);
        for (int seed = 0; seed < 12; seed++) {
            due("item " + seed, x.item(0, seed), x.draw(seed, 0));
        }
        due("item 12", x.item(0, 12), NO);
        x.put(0, 0, 1L << 32 | 5);
        due("of ints", x.item(0, 0), 5);
        due("film(1, 0)", x.film(1, 0), 0);
        due("none of it", x.item(1, 0), NO);
        due("it is there", x.put(1, 0, 0), -12);
        due("sheet 4", x.film(4, 0), BAD);
        due("sheet -1", x.film(-1, 0), BAD);
        due("n 13", x.film(0, 13), BAD);
        due("n -1", x.film(0, -1), BAD);
        due("refused: as it was", x.item(0, 0), 5);
        JoinDraws a = apart();
        due("space 0", a.film(0, 3), 3);
        due("space 0, item 2", a.item(0, 2), -1);
        a.query(0);
        due("empty", a.film(0, 1), STATE);
        due("empty, bad", a.film(0, 13), BAD);
        due("refused: as it was", a.item(0, 2), -1);
        due("great", great().film(0, 1), GREAT);
        due("great, bad", great().film(4, 1), BAD);
    }

    private static void image() {
        promise = 34;
        JoinDraws x = new JoinDraws();
        due("of none", x.image(), 0);
        x.relation(BAG, 1);
        x.row(0, 1, 0, 0, 1);
        due("back to none", x.back(), 0);
        due("rows", x.count(1), 0);
        due("no row then", x.row(0, 1, 0, 0, 1), BAD);
        JoinDraws y = ring();
        due("of three", y.image(), 3);
        y.copies(0, 0, 5);
        due("a later one", y.image(), 3);
        y.copies(0, 0, 6);
        y.back();
        due("is the one that counts", y.told(0, 0, 3), 5);
    }

    private static void back() {
        promise = 35;
        due("none", new JoinDraws().back(), STATE);
        JoinDraws x = pair();
        int text = textOf(x, "fits not (row = 1);");
        x.remove(0, 0);
        x.image();
        long answers = x.answers();
        x.restore(0, 0);
        x.remove(1, 3);
        x.copies(1, 0, 77);
        x.row(0, 5, 5, 0, 1);
        x.relation(DOUBLED, 9);
        x.row(2, 1, 1, 0, 1);
        x.query(7);
        x.force(text);
        due("answers between", x.answers(), 154);
        x.feed('x');
        lay(x, 0, 0, 8);
        x.strip(0, 0);
        due("back()", x.back(), 2);
        due("relations", x.count(0), 2);
        due("rows", x.count(1), 7);
        due("live of 0", x.about(0, 3), 6);
        due("live of 1", x.about(1, 3), 15);
        due("copies", x.told(1, 0, 3), 1);
        due("the query", x.count(6), 3);
        due("the rule", x.count(5), 0);
        due("texts stay", x.count(3), 2);
        due("the tape stays", x.count(4), 1);
        due("sheets stay", x.item(0, 0), 8);
        due("the slate stays", x.count(7), 1);
        due("answers", x.answers(), answers);
        due("a relation that went", x.about(2, 0), BAD);
        due("a row that went", x.told(0, 3, 0), BAD);
        due("a new row", x.row(0, 7, 8, 0, 9), 3);
        due("its value", x.told(0, 3, 0), 7);
        due("a new relation", x.relation(SET, 16), 2);
        due("has no rows", x.about(2, 2), 0);
        due("its attributes", x.about(2, 1), 16);
        due("back() again", x.back(), 2);
        due("rows again", x.about(0, 2), 3);
    }

    private static void count() {
        promise = 36;
        JoinDraws x = ring();
        x.remove(0, 0);
        textOf(x, "fits 1;");
        x.force(1);
        write(x, "abc");
        lay(x, 0, 0, 1, 8);
        x.strip(0, 0);
        x.query(6);
        int[] due = {3, 10, 9, 2, 3, 1, 6, 2};
        for (int what = 0; what < 8; what++) {
            due("count(" + what + ")", x.count(what), due[what]);
        }
        due("count(8)", x.count(8), BAD);
        due("count(-1)", x.count(-1), BAD);
    }

    // ---- 37 .. 42: the host

    private static void sheet() {
        promise = 37;
        JoinDraws x = new JoinDraws();
        due("sheet(0, 0, 40)", x.sheet(0, 0, 40), 1);
        due("item 39", x.item(0, 39), 0);
        x.put(0, 39, 7);
        due("n 41", x.sheet(0, 0, 41), BAD);
        due("n -1", x.sheet(0, 0, -1), -14);
        due("n min", x.sheet(0, 0, Integer.MIN_VALUE), -14);
        due("sheet 4", x.sheet(4, 0, 1), BAD);
        due("sheet -1", x.sheet(-1, 0, 1), BAD);
        due("sort 3", x.sheet(0, 3, 1), BAD);
        due("sort -2", x.sheet(0, -2, 1), BAD);
        due("sort 3, n -1", x.sheet(0, 3, -1), BAD);
        due("refused: as it was", x.item(0, 39), 7);
        due("anew", x.sheet(0, 0, 40), 1);
        due("all 0", x.item(0, 39), 0);
        due("missing, n -1", x.sheet(0, -1, -1), 1);
        due("it is missing", x.put(0, 0, 1), -11);
        due("missing, n 41", x.sheet(0, -1, 41), 1);
        due("n 0", x.sheet(0, 2, 0), 1);
        due("it is there", x.put(0, 0, 1), -12);
        due("sheet 3", x.sheet(3, 2, 1), 1);
        x.put(3, 0, 300);
        due("of bytes", x.item(3, 0), 44);
    }

    private static void put() {
        promise = 38;
        JoinDraws x = new JoinDraws();
        for (int sort = 0; sort < 3; sort++) {
            x.sheet(sort, sort, 2);
        }
        long v = 0x1234567890ABCDEFL;
        long[] due = {v, 0x90ABCDEF, (byte) 0xEF};
        for (int sort = 0; sort < 3; sort++) {
            due("put of sort " + sort, x.put(sort, 1, v), 1);
            due("item of sort " + sort, x.item(sort, 1), due[sort]);
            due("the other", x.item(sort, 0), 0);
            x.put(sort, 0, 127);
            due("127 of sort " + sort, x.item(sort, 0), 127);
            x.put(sort, 0, -128);
            due("-128 of sort " + sort, x.item(sort, 0), -128);
        }
        due("place 2", x.put(0, 2, 1), -12);
        due("place -1", x.put(0, -1, 1), -12);
        due("missing", x.put(3, 0, 1), -11);
        due("missing, place -1", x.put(3, -1, 1), -11);
        due("sheet 4", x.put(4, 0, 1), BAD);
        due("sheet -1", x.put(-1, 0, 1), BAD);
    }

    private static void item() {
        promise = 39;
        JoinDraws x = new JoinDraws();
        lay(x, 1, 0, 5, Long.MIN_VALUE);
        due("item(1, 0)", x.item(1, 0), 5);
        due("item(1, 1)", x.item(1, 1), Long.MIN_VALUE);
        due("item(1, 2)", x.item(1, 2), NO);
        due("item(1, -1)", x.item(1, -1), NO);
        due("missing", x.item(0, 0), NO);
        due("sheet 4", x.item(4, 0), NO);
        due("sheet -1", x.item(-1, 0), NO);
        x.sheet(1, -1, 0);
        due("missing then", x.item(1, 0), NO);
    }

    private static void copy() {
        promise = 40;
        JoinDraws x = new JoinDraws();
        lay(x, 0, 0, 1, 2, 3, 4, 5);
        lay(x, 1, 0, 9, 9, 9);
        lay(x, 2, 1, 7);
        due("copy", x.copy(0, 1, 1, 0, 2), 2);
        long[] due = {2, 3, 9};
        for (int i = 0; i < 3; i++) {
            due("item " + i, x.item(1, i), due[i]);
        }
        due("onto itself, up", x.copy(0, 0, 0, 1, 4), 4);
        long[] up = {1, 1, 2, 3, 4};
        for (int i = 0; i < 5; i++) {
            due("item " + i, x.item(0, i), up[i]);
        }
        due("onto itself, down", x.copy(0, 1, 0, 0, 4), 4);
        long[] down = {1, 2, 3, 4, 4};
        for (int i = 0; i < 5; i++) {
            due("item " + i, x.item(0, i), down[i]);
        }
        due("unlike sorts", x.copy(0, 0, 2, 0, 1), -13);
        due("unlike sorts, outside", x.copy(0, 9, 2, 0, -1), -13);
        due("missing", x.copy(0, 0, 3, 0, 1), -11);
        due("missing the first", x.copy(3, 0, 2, 0, -1), -11);
        due("both missing", x.copy(3, 0, 3, 0, 0), -11);
        due("no sheet", x.copy(4, 0, 3, 0, 1), BAD);
        due("no other", x.copy(3, 0, -1, 0, 1), BAD);
        due("n 4 of 3", x.copy(0, 0, 1, 0, 4), -12);
        due("n 4 from 2", x.copy(0, 2, 1, 0, 4), -12);
        due("j 2, n 2", x.copy(0, 0, 1, 2, 2), -12);
        due("i -1", x.copy(0, -1, 1, 0, 1), -12);
        due("j -1", x.copy(0, 0, 1, -1, 1), -12);
        due("n -1", x.copy(0, 0, 1, 0, -1), -12);
        due("n max", x.copy(0, 1, 1, 1, Integer.MAX_VALUE), -12);
        due("none, at the ends", x.copy(0, 5, 1, 3, 0), 0);
        due("none, past the end", x.copy(0, 6, 1, 3, 0), -12);
        due("refused: as it was", x.item(1, 0), 2);
        due("all of it", x.copy(1, 0, 0, 2, 3), 3);
        due("item 4", x.item(0, 4), 9);
    }

    private static void load() {
        promise = 41;
        JoinDraws x = new JoinDraws();
        x.relation(SET, 3);
        lay(x, 0, 0, 77, 1, 2, 99, 5, (1L << 32) + 1, 3, 0, 6, 1, 2, 0, 5, 10, 0, 0, 1, 4, 4, 4, 0, 6, 6, 6);
        due("of the wrong sort", x.load(0, 0, 1, 1, 1), -13);
        due("missing", x.load(1, 0, 1, 1, 1), -11);
        due("missing, n 0", x.load(1, 0, 1, 1, 0), -11);
        due("no sheet", x.load(4, 0, 0, 1, 1), BAD);
        due("sheet -1", x.load(-1, 0, 0, 1, 1), BAD);
        due("no relation", x.load(0, 1, 0, 1, 1), BAD);
        due("no relation, missing", x.load(1, -1, 0, 1, 1), BAD);
        due("sort 3", x.load(0, 0, 3, 1, 1), BAD);
        due("sort -1", x.load(0, 0, -1, 1, 1), BAD);
        due("n 9", x.load(0, 0, 0, 1, 9), BAD);
        due("n -1", x.load(0, 0, 0, 1, -1), BAD);
        due("n 0", x.load(0, 0, 0, 1, 0), 0);
        due("from -1", x.load(0, 0, 0, -1, 1), -12);
        due("from max", x.load(0, 0, 0, Integer.MAX_VALUE, 8), -12);
        due("none came", x.count(1), 0);
        due("two of five come", x.load(0, 0, 0, 1, 5), 2);
        due("rows", x.about(0, 2), 2);
        due("row 0, a", x.told(0, 0, 0), 1);
        due("row 0, b", x.told(0, 0, 1), 2);
        due("row 0, copies", x.told(0, 0, 3), 5);
        due("row 1, a by the lowest 32 bits", x.told(0, 1, 0), 1);
        due("row 1, copies", x.told(0, 1, 3), 6);
        x.relation(BAG, 3);
        x.query(2);
        due("answers", x.answers(), 0);
        due("what stood ahead came", x.load(0, 1, 0, 1, 6), -12);
        due("rows", x.about(1, 2), 3);
        due("answers then", x.answers(), 16);
        JoinDraws y = new JoinDraws();
        y.relation(BAG, 1);
        y.sheet(0, 2, 32);
        for (int i = 0; i < 32; i++) {
            y.put(0, i, i % 4 == 0 ? i / 4 : 1);
        }
        due("8 of bytes", y.load(0, 0, 2, 0, 8), 8);
        due("full: none", y.load(0, 0, 2, 0, 8), 0);
        due("full, and outside", y.load(0, 0, 2, 1, 8), -12);
        y.sheet(1, 1, 4);
        y.put(1, 3, 1);
        y.relation(BAG, 1);
        due("4 of ints", y.load(1, 1, 1, 0, 1), 1);
        due("the fourth is outside", y.load(1, 1, 1, 1, 1), -12);
        due("rows", y.about(1, 2), 1);
    }

    private static void taken() {
        promise = 42;
        int[] is = {1, 3, 5, 11, 21, 43};
        for (int kind = BAG; kind <= DOUBLED; kind++) {
            JoinDraws x = new JoinDraws();
            x.relation(kind, 1);
            for (int k = BAG; k <= DOUBLED; k++) {
                due("kind " + kind + " taken for " + k, x.taken(0, k), (is[kind] >> k & 1) == 1 ? kind : -13);
            }
            due("k 6", x.taken(0, 6), BAD);
            due("k -1", x.taken(0, -1), BAD);
            due("none such", x.taken(1, 0), -11);
            due("relation -1", x.taken(-1, 0), -11);
            due("none such, k 6", x.taken(1, 6), BAD);
        }
    }
}
