/** Cases of promises 1 to 8: relations and their rows. */
final class RowEdges extends Joins {
    static void all() {
        object();
        numbers();
        relation();
        row();
        takes();
        letsGo();
        remove();
        restore();
        copies();
        told();
        worth();
    }

    private static void object() {
        edge(1, "No relation", () -> none().due(0, "count", 0).due(0, "count", 1).due(0, "count", 2)
            .refused(BAD, "about", 0, 0).refused(BAD, "row", 0, 0, 0, 0, 1).refused(NOTHING, "taken", 0, 0));
        edge(1, "an empty query.", () -> none().due(0, "count", 6).refused(STATE, "shape", 0).refused(NO, "space").refused(NO, "answers"));
        edge(1, "No relation, an empty query.", () -> {
            busy(ring());
            none().due(0, "count", 0).due(0, "count", 4).due(0, "count", 7).due(STATE, "back");
        });
        edge(1, "THE QUERY is a set of RELATIONS (none at first).", () -> none().due(0, "count", 6)
            .call("relation", BAG, 1).due(0, "count", 6).due(STATE, "shape", 0));
        edge(1, "TEXT 0, at first THE RULE, is: fits 1 ;", () -> none().due(0, "count", 5).due(1, "count", 3)
            .call("relation", BAG, 1).call("row", 0, 0, 0, 0, 1).due(1, "told", 0, 0, 5).due(1, "about", 0, 6));
        edge(1, "SHEETS 0 .. 3 are rows of numbers, or missing (as all are at first)", () -> none()
            .due(NOTHING, "put", 0, 0, 1).due(NOTHING, "put", 1, 0, 1).due(NOTHING, "put", 2, 0, 1).due(NOTHING, "put", 3, 0, 1));
        edge(1, "An object is used for at most 512 calls after it has been made", () -> {
            Run run = pair();
            for (int call = 11; call < 512; call++) {
                run.call("put", call % 7, call, call);
            }
            run.due(30, "answers");
        });
    }

    private static void numbers() {
        edge(1, "public static final int NONE = -1, BAD = -2, STATE = -3, FULL = -4, GREAT = -5;", () -> {
            due("NONE", JoinDraws.NONE, -1);
            due("BAD", JoinDraws.BAD, -2);
            due("STATE", JoinDraws.STATE, -3);
            due("FULL", JoinDraws.FULL, -4);
            due("GREAT", JoinDraws.GREAT, -5);
        });
        edge(1, "NONE is -1", () -> apart().due(-1, "likeliest", 0));
        edge(1, "NO, where a long is answered, -4611686018427387904.", () -> {
            due("NO", JoinDraws.NO, -4611686018427387904L);
            none().due(-4611686018427387904L, "answers");
        });
        edge(1, "Refusals, the first that the call's words name; they change nothing", () -> busy(great())
            .refused(BAD, "at", -1, 8).refused(GREAT, "at", -1, 0).refused(BAD, "tells", 3, 3).refused(GREAT, "tells", 3, 0));
        edge(2, "BAD (-2: a number is none such or not as told)", () -> none().refused(-2, "relation", 6, 1));
        edge(4, "STATE (-3)", () -> none().call("relation", LOG, 1).call("row", 0, 1, 0, 0, 1).refused(-3, "remove", 0, 0));
        edge(2, "FULL (-4)", () -> of(1, 1, 1, 1).refused(-4, "relation", BAG, 1));
        edge(21, "GREAT (-5)", () -> great().refused(-5, "draw", 0, 0));
        edge(38, "the host's: -11 nothing where something is asked", () -> none().refused(-11, "put", 0, 0, 0));
        edge(38, "-12 a place outside", () -> none().lay(0, INTS).refused(-12, "put", 0, 0, 0));
        edge(40, "-13 a thing of another sort or KIND", () -> none().lay(0, INTS).lay(1, BYTES).refused(-13, "copy", 0, 0, 1, 0, 0)
            .call("relation", BAG, 1).refused(-13, "taken", 0, SET));
        edge(37, "-14 a size below 0", () -> none().refused(-14, "sheet", 0, INTS, -1));
    }

    private static void relation() {
        edge(2, "A RELATION: the number.", () -> none().due(0, "relation", BAG, 1).due(1, "relation", BAG, 1).due(2, "relation", SET, 7));
        edge(2, "ATTRIBUTES are 0 .. 5 (in texts a .. f)", () -> busy(pair()).due(2, "relation", BAG, 1).due(3, "relation", BAG, 32)
            .due(1, "about", 2, 1).due(32, "about", 3, 1).refused(BAD, "relation", BAG, 64));
        edge(2, "RELATIONS (4 at most, numbered from 0)", () -> busy(ring()).due(3, "relation", BAG, 1).due(4, "count", 0)
            .refused(FULL, "relation", BAG, 1));
        edge(2, "1 .. 3 ATTRIBUTES (a set, as bits)", () -> busy(of(1, 2)).due(2, "relation", BAG, 3).due(3, "relation", BAG, 7));
        edge(2, "BAD: kind", () -> busy(pair()).refused(BAD, "relation", -1, 1).refused(BAD, "relation", 6, 1)
            .refused(BAD, "relation", LEAST_INT, 1).refused(BAD, "relation", MOST_INT, 1)
            .due(2, "relation", 0, 1).due(3, "relation", 5, 1));
        edge(2, "attributes (a set of 1 .. 3 of 0 .. 5)", () -> busy(pair()).refused(BAD, "relation", BAG, 0)
            .refused(BAD, "relation", BAG, 15).refused(BAD, "relation", BAG, 60).refused(BAD, "relation", BAG, 63)
            .refused(BAD, "relation", BAG, 64).refused(BAD, "relation", BAG, 65).refused(BAD, "relation", BAG, -1)
            .refused(BAD, "relation", BAG, LEAST_INT).refused(BAD, "relation", BAG, MOST_INT)
            .due(2, "relation", BAG, 56).due(3, "relation", BAG, 35));
        edge(2, "FULL.", () -> busy(of(1, 2, 4, 8)).refused(FULL, "relation", BAG, 1));
        edge(2, "BAD: kind, attributes (a set of 1 .. 3 of 0 .. 5); FULL.", () -> busy(of(1, 2, 4, 8))
            .refused(BAD, "relation", 6, 1).refused(BAD, "relation", BAG, 0).refused(BAD, "relation", BAG, 15));
        edge(2, "have a KIND: 0 BAG, 1 SET under BAG, 2 LOG under BAG, 3 KEYED under SET, 4 CAPPED under LOG, 5 DOUBLED under KEYED", () -> {
            Run run = none();
            for (int kind = BAG; kind <= LOG; kind++) {
                run.due(kind, "relation", kind, 1).due(kind, "about", kind, 0);
            }
            Run other = none();
            for (int kind = KEYED; kind <= DOUBLED; kind++) {
                other.due(kind - KEYED, "relation", kind, 1).due(kind, "about", kind - KEYED, 0);
            }
        });
    }

    private static void row() {
        edge(3, "A LIVE ROW with VALUES x, y, z for its ATTRIBUTES by numbers", () -> none().call("relation", BAG, 44)
            .due(0, "row", 0, 3, 4, 5, 6).due(3, "told", 0, 0, 0).due(4, "told", 0, 0, 1).due(5, "told", 0, 0, 2)
            .due(1, "told", 0, 0, 4).rule("fits c = 3 and d = 4 and f = 5;").due(1, "told", 0, 0, 5));
        edge(3, "(more than it has don't matter)", () -> none().call("relation", BAG, 32).call("relation", BAG, 33)
            .due(0, "row", 0, 9, 10, -1, 1).due(1, "row", 0, 9, LEAST_INT, MOST_INT, 1).due(9, "told", 0, 1, 0)
            .due(0, "row", 1, 1, 2, 10, 1).due(1, "row", 1, 1, 2, LEAST_INT, 1).due(BAD, "row", 1, 1, 10, 0, 1));
        edge(3, "and ROWS (8 at most, numbered from 0), each with a VALUE for each of these", () -> {
            Run run = of(1);
            for (int row = 0; row < 8; row++) {
                run.due(row, "row", 0, row, 0, 0, 1);
            }
            run.due(8, "about", 0, 2).due(255, "about", 0, 3).due(7, "told", 0, 7, 0).refused(FULL, "row", 0, 8, 0, 0, 1);
        });
        edge(3, ": the number.", () -> of(1, 1).due(0, "row", 0, 1, 0, 0, 1).due(0, "row", 1, 1, 0, 0, 1).due(1, "row", 1, 1, 0, 0, 1)
            .call("remove", 1, 1).due(2, "row", 1, 1, 0, 0, 1));
        badRows();
        edge(3, "STATE: the KIND doesn't TAKE it", () -> busy(pair()).refused(STATE, "row", 1, 2, 5, 0, 1).due(4, "row", 1, 2, 6, 0, 1));
        edge(3, "FULL.", () -> {
            Run run = busy(of(1));
            for (int row = 0; row < 8; row++) {
                run.call("row", 0, row, 0, 0, 1);
            }
            run.refused(FULL, "row", 0, 0, 0, 0, 1).call("remove", 0, 3).refused(FULL, "row", 0, 3, 0, 0, 1);
        });
        edge(3, "BAD; STATE: the KIND doesn't TAKE it; FULL.", () -> {
            Run run = busy(none().call("relation", SET, 1));
            for (int row = 0; row < 8; row++) {
                run.call("row", 0, row, 0, 0, 1);
            }
            run.refused(FULL, "row", 0, 8, 0, 0, 1).refused(STATE, "row", 0, 7, 0, 0, 1).refused(BAD, "row", 0, 7, 0, 0, 0)
                .refused(BAD, "row", 1, 7, 0, 0, 1).refused(BAD, "row", 0, 10, 0, 0, 1);
        });
    }

    private static void badRows() {
        edge(3, "BAD;", () -> busy(pair()).refused(BAD, "row", -1, 1, 1, 0, 1).refused(BAD, "row", 2, 1, 1, 0, 1)
            .refused(BAD, "row", 4, 1, 1, 0, 1).refused(BAD, "row", LEAST_INT, 1, 1, 0, 1).refused(BAD, "row", MOST_INT, 1, 1, 0, 1));
        edge(3, "VALUES 0 .. 9.", () -> {
            Run run = busy(none().call("relation", BAG, 7));
            run.due(0, "row", 0, 0, 0, 0, 1).due(1, "row", 0, 9, 9, 9, 1).due(9, "told", 0, 1, 2).due(0, "told", 0, 0, 2);
            for (int v : new int[] {-1, 10, LEAST_INT, MOST_INT, 256}) {
                run.refused(BAD, "row", 0, v, 0, 0, 1).refused(BAD, "row", 0, 0, v, 0, 1).refused(BAD, "row", 0, 0, 0, v, 1);
            }
        });
        edge(3, "COPIES (1 .. 2000000000)", () -> busy(of(1)).due(0, "row", 0, 0, 0, 0, 1).due(1, "row", 0, 0, 0, 0, 2000000000)
            .due(2000000000, "told", 0, 1, 3).refused(BAD, "row", 0, 0, 0, 0, 0).refused(BAD, "row", 0, 0, 0, 0, 2000000001)
            .refused(BAD, "row", 0, 0, 0, 0, -1).refused(BAD, "row", 0, 0, 0, 0, LEAST_INT).refused(BAD, "row", 0, 0, 0, 0, MOST_INT));
    }

    /** A relation (b c) of this kind with one row 1 1. */
    private static Run kind(int kind) {
        return none().call("relation", kind, 6).call("row", 0, 1, 1, 0, 1);
    }

    private static void takes() {
        edge(3, "ROWS are ALIKE, if all their VALUES are.", () -> none().call("relation", SET, 7).due(0, "row", 0, 1, 2, 3, 1)
            .due(1, "row", 0, 0, 2, 3, 1).due(2, "row", 0, 1, 0, 3, 1).due(3, "row", 0, 1, 2, 0, 1).refused(STATE, "row", 0, 1, 2, 3, 1)
            .refused(STATE, "row", 0, 1, 2, 3, 2).due(4, "row", 0, 3, 2, 1, 1));
        edge(3, "A KIND TAKES a ROW (that isn't LIVE) by the LIVE ones", () -> {
            for (int kind : new int[] {SET, KEYED, DOUBLED}) {
                kind(kind).refused(STATE, "row", 0, 1, 1, 0, 1).call("remove", 0, 0).due(1, "row", 0, 1, 1, 0, 1);
            }
        });
        edge(3, "by the LIVE ones: BAG: always", () -> kind(BAG).due(1, "row", 0, 1, 1, 0, 1).due(3, "about", 0, 3));
        edge(3, "SET: if a BAG does and none is ALIKE", () -> kind(SET).refused(STATE, "row", 0, 1, 1, 0, 1)
            .due(1, "row", 0, 1, 2, 0, 1).due(2, "row", 0, 2, 1, 0, 1).refused(STATE, "row", 0, 2, 1, 0, 9));
        edge(3, "LOG: as a BAG", () -> kind(LOG).due(1, "row", 0, 1, 1, 0, 1).due(3, "about", 0, 3));
        edge(3, "KEYED: if a SET does and none has the same VALUE for the first ATTRIBUTE", () -> kind(KEYED)
            .refused(STATE, "row", 0, 1, 1, 0, 1).refused(STATE, "row", 0, 1, 2, 0, 1).due(1, "row", 0, 2, 1, 0, 1)
            .refused(STATE, "row", 0, 2, 2, 0, 1).due(2, "row", 0, 0, 1, 0, 1));
        edge(3, "CAPPED: as a LOG", () -> kind(CAPPED).due(1, "row", 0, 1, 1, 0, 1).due(3, "about", 0, 3));
        edge(3, "DOUBLED: as a KEYED.", () -> kind(DOUBLED).refused(STATE, "row", 0, 1, 1, 0, 1).refused(STATE, "row", 0, 1, 2, 0, 1)
            .due(1, "row", 0, 2, 1, 0, 1));
    }

    private static void letsGo() {
        edge(4, "It LETS GO: BAG: always", () -> kind(BAG).due(0, "remove", 0, 0));
        edge(4, "SET, KEYED, DOUBLED: as a BAG", () -> {
            for (int kind : new int[] {SET, KEYED, DOUBLED}) {
                kind(kind).due(0, "remove", 0, 0).due(0, "told", 0, 0, 4);
            }
        });
        edge(4, "LOG, CAPPED: never.", () -> {
            busy(kind(LOG)).refused(STATE, "remove", 0, 0).due(1, "told", 0, 0, 4);
            busy(kind(CAPPED)).refused(STATE, "remove", 0, 0).due(1, "told", 0, 0, 4);
        });
    }

    private static void remove() {
        edge(4, "A ROW is REMOVED: how many are LIVE then.", () -> busy(pair()).due(2, "remove", 0, 1).due(5, "about", 0, 3)
            .due(0, "told", 0, 1, 4).due(1, "remove", 0, 0).due(0, "remove", 0, 2).due(0, "about", 0, 3).due(3, "about", 0, 2)
            .due(4, "count", 2).due(0, "answers"));
        edge(4, "BAD;", () -> busy(pair()).refused(BAD, "remove", 0, -1).refused(BAD, "remove", 0, 3).refused(BAD, "remove", 0, 8)
            .refused(BAD, "remove", -1, 0).refused(BAD, "remove", 2, 0).refused(BAD, "remove", 4, 0)
            .refused(BAD, "remove", 0, LEAST_INT).refused(BAD, "remove", MOST_INT, 0).due(2, "remove", 0, 2).due(3, "remove", 1, 3));
        edge(4, "STATE: it is REMOVED", () -> busy(pair()).due(2, "remove", 0, 1).refused(STATE, "remove", 0, 1).due(1, "remove", 0, 2));
        edge(4, "the KIND doesn't LET GO.", () -> busy(ring()).refused(STATE, "remove", 2, 0).due(7, "about", 2, 3));
        edge(4, "BAD; STATE: it is REMOVED; the KIND doesn't LET GO.", () -> busy(ring()).refused(BAD, "remove", 2, 3)
            .refused(STATE, "remove", 2, 2));
        edge(4, "LIVE or REMOVED.", () -> pair().due(1, "told", 0, 0, 4).call("remove", 0, 0).due(0, "told", 0, 0, 4)
            .call("restore", 0, 0).due(1, "told", 0, 0, 4));
    }

    private static void restore() {
        edge(5, "A ROW is LIVE again: how many are LIVE then.", () -> {
            Run run = busy(pair()).call("remove", 0, 0).call("remove", 0, 1).call("remove", 0, 2);
            run.due(1, "restore", 0, 1).due(2, "about", 0, 3).due(2, "restore", 0, 2).due(3, "restore", 0, 0).due(30, "answers");
        });
        edge(5, "BAD;", () -> busy(pair()).call("remove", 0, 2).refused(BAD, "restore", 0, -1).refused(BAD, "restore", 0, 3)
            .refused(BAD, "restore", -1, 2).refused(BAD, "restore", 2, 2).refused(BAD, "restore", LEAST_INT, 2)
            .refused(BAD, "restore", 0, MOST_INT).due(3, "restore", 0, 2));
        edge(5, "STATE: it is LIVE", () -> busy(pair()).refused(STATE, "restore", 0, 0).call("remove", 0, 0).due(3, "restore", 0, 0)
            .refused(STATE, "restore", 0, 0));
        edge(5, "the KIND doesn't TAKE it.", () -> {
            busy(kind(SET)).call("remove", 0, 0).call("row", 0, 1, 1, 0, 5).refused(STATE, "restore", 0, 0)
                .call("remove", 0, 1).due(1, "restore", 0, 0).refused(STATE, "restore", 0, 1);
            busy(kind(SET)).call("remove", 0, 0).call("row", 0, 1, 2, 0, 5).due(2, "restore", 0, 0);
            for (int kind : new int[] {KEYED, DOUBLED}) {
                busy(kind(kind)).call("remove", 0, 0).call("row", 0, 1, 2, 0, 5).refused(STATE, "restore", 0, 0)
                    .call("remove", 0, 1).call("row", 0, 2, 1, 0, 1).due(2, "restore", 0, 0);
            }
            busy(kind(BAG)).call("remove", 0, 0).call("row", 0, 1, 1, 0, 5).due(2, "restore", 0, 0);
        });
        edge(5, "BAD; STATE: it is LIVE; the KIND doesn't TAKE it.", () -> busy(pair()).refused(BAD, "restore", 1, 4)
            .refused(STATE, "restore", 1, 3));
    }

    private static void copies() {
        edge(6, "COPIES of a ROW become n: what they were.", () -> busy(pair()).due(2, "copies", 0, 1, 2000000000)
            .due(2000000000, "told", 0, 1, 3).due(2000000000, "copies", 0, 1, 1).due(1, "copies", 0, 1, 1).due(1, "told", 0, 1, 3)
            .due(27, "answers"));
        edge(6, "COPIES of a ROW become n", () -> busy(ring()).call("remove", 0, 0).due(1, "copies", 0, 0, 7).due(7, "told", 0, 0, 3)
            .due(50, "copies", 2, 0, 8).due(8, "worth", 2, 0));
        edge(6, "BAD.", () -> {
            Run run = busy(pair());
            for (int n : new int[] {0, -1, 2000000001, LEAST_INT, MOST_INT}) {
                run.refused(BAD, "copies", 0, 0, n);
            }
            run.refused(BAD, "copies", 0, 3, 1).refused(BAD, "copies", 0, -1, 1).refused(BAD, "copies", 2, 0, 1)
                .refused(BAD, "copies", -1, 0, 1).refused(BAD, "copies", MOST_INT, LEAST_INT, 1).due(3, "copies", 0, 2, 1);
        });
    }

    private static void told() {
        edge(7, "VALUE of its first, second, third ATTRIBUTE (what 0, 1, 2;", () -> none().call("relation", BAG, 38)
            .call("row", 0, 7, 0, 9, 1).due(7, "told", 0, 0, 0).due(0, "told", 0, 0, 1).due(9, "told", 0, 0, 2));
        edge(7, "NONE: it has fewer)", () -> of(8, 24).call("row", 0, 7, 8, 9, 1).call("row", 1, 7, 8, 9, 1)
            .due(7, "told", 0, 0, 0).due(NONE, "told", 0, 0, 1).due(NONE, "told", 0, 0, 2)
            .due(7, "told", 1, 0, 0).due(8, "told", 1, 0, 1).due(NONE, "told", 1, 0, 2));
        edge(7, "COPIES (3)", () -> of(1).call("row", 0, 0, 0, 0, 1).call("row", 0, 0, 0, 0, MOST).due(1, "told", 0, 0, 3)
            .due(MOST, "told", 0, 1, 3).call("remove", 0, 1).due(MOST, "told", 0, 1, 3)
            .call("relation", CAPPED, 1).call("row", 1, 0, 0, 0, 50).due(50, "told", 1, 0, 3));
        edge(7, "whether it is LIVE (4; 1, 0)", () -> pair().due(1, "told", 0, 0, 4).rule("fits 0;").due(1, "told", 0, 0, 4)
            .call("remove", 0, 0).due(0, "told", 0, 0, 4).due(1, "told", 0, 1, 4));
        edge(7, "whether it PASSES (5).", () -> pair().call("query", 0).due(1, "told", 0, 0, 5).rule("fits row;").due(0, "told", 0, 0, 5)
            .due(1, "told", 0, 1, 5).call("remove", 0, 1).due(0, "told", 0, 1, 5));
        edge(7, "A ROW PASSES, if it is LIVE and THE RULE tells what is not 0.", () -> pair().rule("fits row - 1;").due(1, "told", 0, 0, 5)
            .due(0, "told", 0, 1, 5).due(1, "told", 0, 2, 5).call("remove", 0, 2).due(0, "told", 0, 2, 5).call("restore", 0, 2)
            .due(1, "told", 0, 2, 5).due(5, "about", 0, 6).call("force", 0).due(7, "about", 0, 6));
        edge(7, "BAD.", () -> busy(pair()).refused(BAD, "told", 0, 0, -1).refused(BAD, "told", 0, 0, 6).refused(BAD, "told", 0, 3, 0)
            .refused(BAD, "told", 0, -1, 0).refused(BAD, "told", 2, 0, 0).refused(BAD, "told", -1, 0, 0)
            .refused(BAD, "told", 0, 0, LEAST_INT).refused(BAD, "told", MOST_INT, MOST_INT, MOST_INT).due(5, "told", 1, 3, 3));
    }

    /** The worth of a row of a kind by copies. */
    private static void worthOf(int kind, long copies, long worth) {
        none().call("relation", kind, 1).call("row", 0, 1, 0, 0, copies).due(worth, "worth", 0, 0)
            .call("query", 1).due(worth, "answers").call("remove", 0, 0).due(worth, "worth", 0, 0);
    }

    private static void worth() {
        edge(8, "WORTH.", () -> ring().due(1, "worth", 0, 0).due(5, "worth", 1, 3).due(9, "worth", 2, 0).due(1, "worth", 2, 2));
        edge(8, "WORTH of a ROW: BAG, SET, LOG, KEYED: COPIES", () -> {
            for (int kind = BAG; kind <= KEYED; kind++) {
                worthOf(kind, 1, 1);
                worthOf(kind, 10, 10);
                worthOf(kind, 2000000000, 2000000000);
            }
        });
        edge(8, "CAPPED: a LOG's, 9 at most", () -> {
            worthOf(CAPPED, 1, 1);
            worthOf(CAPPED, 8, 8);
            worthOf(CAPPED, 9, 9);
            worthOf(CAPPED, 10, 9);
            worthOf(CAPPED, 2000000000, 9);
        });
        edge(8, "DOUBLED: twice a KEYED's.", () -> {
            worthOf(DOUBLED, 1, 2);
            worthOf(DOUBLED, 1073741823, 2147483646);
            worthOf(DOUBLED, 1073741824, 2147483648L);
            worthOf(DOUBLED, 2000000000, 4000000000L);
        });
        edge(8, "NO: no such ROW.", () -> busy(pair()).refused(NO, "worth", 0, 3).refused(NO, "worth", 0, -1).refused(NO, "worth", 2, 0)
            .refused(NO, "worth", -1, 0).refused(NO, "worth", LEAST_INT, MOST_INT).due(3, "worth", 0, 2));
    }
}
