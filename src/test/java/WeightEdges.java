/** Cases of promises 15 to 18: weights, bounds, the space, the count, and what is too great for them. */
final class WeightEdges extends Joins {
    /** 9223372036854775807 is the product of these. */
    static final long ONE_PART = 153092023, OTHER_PART = 92737, LAST_PART = 649657;

    static void all() {
        weight();
        bound();
        heaps();
        space();
        products();
        sums();
        order();
        answers();
    }

    /** Three that share nothing, one row each, as often as these. */
    static Run product(long x, long y, long z) {
        return of(1, 2, 4).call("row", 0, 1, 0, 0, x).call("row", 1, 1, 0, 0, y).call("row", 2, 1, 0, 0, z);
    }

    private static void weight() {
        edge(15, "WEIGHT.", () -> ring().due(1, "weight", 0, 0).due(2, "weight", 0, 1).due(3, "weight", 0, 2).due(4, "weight", 1, 0)
            .due(4, "weight", 1, 1).due(2, "weight", 1, 2).due(20, "weight", 1, 3));
        edge(15, "NO: no such ROW", () -> busy(pair()).refused(NO, "weight", 0, 3).refused(NO, "weight", 0, -1).refused(NO, "weight", 2, 0)
            .refused(NO, "weight", -1, 0).refused(NO, "weight", MOST_INT, 0).refused(NO, "weight", 0, LEAST_INT).due(20, "weight", 1, 3));
        edge(15, "its RELATION isn't KEPT", () -> {
            busy(ring()).refused(NO, "weight", 2, 0).call("query", 1).due(1, "weight", 0, 0).refused(NO, "weight", 1, 0)
                .call("query", 4).due(9, "weight", 2, 0);
            empty().refused(NO, "weight", 0, 0);
        });
        edge(15, "THE QUERY is GREAT.", () -> busy(great()).refused(NO, "weight", 0, 0).call("query", 3).due(MOST, "weight", 0, 0));
        edge(15, "WEIGHT of a ROW of one that is KEPT: 0, if it doesn't PASS;", () -> pair().call("remove", 0, 0).due(0, "weight", 0, 0)
            .due(3, "weight", 1, 0).rule("fits from;").due(0, "weight", 0, 2).due(0, "weight", 1, 3).call("force", 0).due(3, "weight", 0, 2));
        edge(15, "else its WORTH, times, of each CHILD (who has it as PARENT; by numbers), "
            + "the SUM of the WEIGHTS of its ROWS (by numbers) that MATCH the ROW.", () -> {
                Run run = none().call("relation", DOUBLED, 7).call("row", 0, 1, 2, 3, 5);
                for (int r = 1; r < 4; r++) {
                    run.call("relation", BAG, 1 << r - 1).call("row", r, r, 0, 0, r).call("row", r, r, 0, 0, 1).call("row", r, 9, 0, 0, 4);
                }
                // of 0 the children are 1 and 2, of 3 it is 0
                run.call("query", 15).due(60, "weight", 0, 0).due(180, "weight", 3, 0).due(60, "weight", 3, 1).due(0, "weight", 3, 2)
                    .due(4, "weight", 2, 2).call("query", 1).due(10, "weight", 0, 0).call("query", 5).due(10, "weight", 0, 0)
                    .due(20, "weight", 2, 0).due(10, "weight", 2, 1).due(0, "weight", 2, 2);
                apart().due(1, "weight", 0, 0).due(0, "weight", 1, 0);
                none().call("relation", CAPPED, 1).call("row", 0, 1, 0, 0, 50).call("query", 1).due(9, "weight", 0, 0);
            });
    }

    private static void bound() {
        edge(16, "BOUND.", () -> ring().due(9, "bound", 2).call("copies", 2, 0, 8).due(8, "bound", 2));
        edge(16, "NO: it isn't a CHECK", () -> {
            busy(ring()).refused(NO, "bound", 0).refused(NO, "bound", 1).refused(NO, "bound", 3).refused(NO, "bound", -1)
                .refused(NO, "bound", LEAST_INT).refused(NO, "bound", MOST_INT).due(9, "bound", 2).call("query", 3).refused(NO, "bound", 2)
                .call("query", 4).refused(NO, "bound", 2);
            empty().refused(NO, "bound", 2);
        });
        edge(16, "THE QUERY is GREAT.", () -> {
            Run run = busy(ring()).call("copies", 0, 0, MOST).call("copies", 0, 2, MOST).due(9, "bound", 2);
            run.call("copies", 1, 0, MOST).due(1, "shape", 3).refused(NO, "bound", 2);
        });
        edge(16, "BOUND of a CHECK: of its ROWS that PASS", () -> of(3, 6, 5).call("row", 2, 1, 1, 0, 4).call("row", 2, 1, 1, 0, 3)
            .call("row", 2, 2, 1, 0, 6).due(7, "bound", 2).call("remove", 2, 1).due(6, "bound", 2).rule("fits row = 0;").due(4, "bound", 2));
        edge(16, "the greatest SUM of WORTHS (by numbers) of a heap", () -> {
            of(3, 6, 5).call("row", 2, 1, 1, 0, 4).call("row", 2, 2, 1, 0, 3).call("row", 2, 1, 1, 0, 5).call("row", 2, 1, 2, 0, 8)
                .due(9, "bound", 2).call("copies", 2, 3, 9).due(9, "bound", 2).call("copies", 2, 3, 10).due(10, "bound", 2);
            none().call("relation", BAG, 3).call("relation", BAG, 6).call("relation", DOUBLED, 5).call("query", 7)
                .call("row", 2, 1, 1, 0, MOST).due(4000000000L, "bound", 2);
            Run run = of(3, 6, 5);
            for (int row = 0; row < 8; row++) {
                run.call("row", 2, 1, 1, 0, MOST);
            }
            run.due(16000000000L, "bound", 2);
        });
        edge(16, "(0: none).", () -> {
            of(3, 6, 5).due(0, "bound", 2).due(0, "space").call("row", 2, 1, 1, 0, 3).due(3, "bound", 2).call("remove", 2, 0)
                .due(0, "bound", 2).due(0, "shape", 3);
            ring().rule("fits from < 2;").due(0, "bound", 2).due(0, "space").due(0, "answers");
        });
    }

    /** Relations a b and b c, and checks of these attributes, with rows 1 1 0 and 1 1 5 by 2, 3 each. */
    private static Run checks(int... attributes) {
        Run run = of(3, 6);
        for (int i = 0; i < attributes.length; i++) {
            run.call("relation", BAG, attributes[i]).call("row", i + 2, 1, 1, 0, 2).call("row", i + 2, 1, 1, 5, 3);
        }
        return run.call("query", (1 << attributes.length + 2) - 1);
    }

    private static void heaps() {
        edge(16, "heaped by VALUES of those ATTRIBUTES that KEPT ones or CHECKS ahead of it have", () -> {
            // d is no other's
            checks(13).due(5, "bound", 2);
            // d is that of a check behind it, and for that one it is of one ahead
            checks(13, 13).due(12, "shape", 1).due(5, "bound", 2).due(3, "bound", 3);
            // e is not
            checks(13, 21).due(12, "shape", 1).due(5, "bound", 2).due(5, "bound", 3);
            // d is that of one that is kept, though by a higher number
            checks(13).call("relation", BAG, 8).call("query", 15).due(11, "shape", 0).due(3, "bound", 2);
            // and of one that is not asked
            checks(13).call("relation", BAG, 8).due(5, "bound", 2);
            // a is no other's
            of(6, 12, 11).call("row", 2, 1, 1, 1, 2).call("row", 2, 2, 1, 1, 3).call("row", 2, 2, 2, 1, 4).due(5, "bound", 2);
        });
    }

    private static void space() {
        edge(17, "SPACE.", () -> {
            pair().due(30, "space");
            ring().due(270, "space").call("query", 4).due(12, "space");
        });
        edge(17, "NO: THE QUERY is empty, GREAT.", () -> {
            empty().refused(NO, "space");
            busy(great()).refused(NO, "space");
        });
        edge(17, "ALL: the SUM of the WEIGHTS of ROOT's ROWS.", () -> {
            pair().due(30, "space").call("remove", 1, 3).due(10, "space");
            of(1).due(0, "space").call("row", 0, 1, 0, 0, 1).due(1, "space");
            apart().due(0, "space").due(0, "shape", 3);
        });
        edge(17, "SPACE: ALL, times the BOUNDS of CHECKS (by numbers).", () -> {
            ring().due(270, "space").call("copies", 2, 0, 1).due(60, "space");
            checks(13, 13).call("row", 0, 1, 1, 0, 7).call("row", 1, 1, 1, 0, 1).due(7 * 5 * 3, "space");
        });
    }

    private static void products() {
        edge(17, "if a sum or a product on the way is above 9223372036854775807, THE QUERY is GREAT", () -> {
            product(ONE_PART, OTHER_PART, LAST_PART).due(MOST_LONG, "space").due(0, "shape", 3).due(MOST_LONG, "answers")
                .due(MOST_LONG, "weight", 2, 0).call("copies", 1, 0, OTHER_PART + 1).due(1, "shape", 3).due(NO, "space");
            // 2 ^ 62, 2 ^ 63, 2 ^ 64 (which wraps round to 0), 2 ^ 65
            product(1 << 21, 1 << 21, 1 << 20).due(0, "shape", 3).due(1L << 62, "space");
            product(1 << 21, 1 << 21, 1 << 21).due(1, "shape", 3).due(NO, "space");
            product(1 << 21, 1 << 21, 1 << 22).due(1, "shape", 3).due(NO, "space");
            product(1 << 22, 1 << 21, 1 << 22).due(1, "shape", 3).due(NO, "space");
            product(MOST, MOST, 2).due(8000000000000000000L, "space").call("copies", 2, 0, 3).due(NO, "space");
        });
        edge(17, "SPACE: ALL, times the BOUNDS of CHECKS (by numbers). All is told in this order;", () -> {
            // all times a bound: the longest, and one more
            Run run = of(3, 6, 5).call("row", 0, 1, 1, 0, ONE_PART).call("row", 1, 1, 1, 0, OTHER_PART).call("row", 2, 1, 1, 0, LAST_PART);
            run.due(MOST_LONG, "space").due(MOST_LONG, "answers").due(0, "shape", 3).call("copies", 2, 0, LAST_PART + 1)
                .due(1, "shape", 3).due(NO, "space").due(NO, "answers").call("remove", 2, 0).due(0, "shape", 3).due(0, "space");
            // a bound behind another one
            Run two = of(3, 6, 5, 5).call("row", 0, 1, 1, 0, MOST).call("row", 1, 1, 1, 0, MOST).call("row", 2, 1, 1, 0, 2)
                .call("row", 3, 1, 1, 0, 1);
            two.due(8000000000000000000L, "space").call("copies", 3, 0, 2).due(1, "shape", 3).call("copies", 2, 0, 1)
                .due(8000000000000000000L, "space");
        });
    }

    private static void sums() {
        edge(17, "if a sum or a product on the way is above 9223372036854775807", () -> {
            // of the root's weights: 649656 and 1 times the rest
            Run run = product(ONE_PART, OTHER_PART, LAST_PART - 1).call("row", 2, 2, 0, 0, 1);
            run.due(MOST_LONG, "space").due(0, "shape", 3).call("row", 2, 3, 0, 0, 1).due(1, "shape", 3).due(NO, "space");
            // of the weights that match a row of the parent, which is 3
            Run child = product(ONE_PART, OTHER_PART, LAST_PART - 1).call("row", 2, 2, 0, 0, 1).call("relation", BAG, 8)
                .call("query", 15).due(0, "shape", 3).due(0, "space").call("row", 3, 1, 0, 0, 1).due(MOST_LONG, "space");
            child.call("row", 2, 3, 0, 0, 1).due(1, "shape", 3).due(NO, "answers");
            // no row of the parent passes: there is no such sum
            child.call("remove", 3, 0).due(0, "shape", 3).due(0, "space").due(0, "answers");
            // a sum that wraps round to 0: four times 2 ^ 62
            Run wraps = product(1 << 21, 1 << 21, 1 << 20);
            for (int row = 1; row < 4; row++) {
                wraps.call("row", 2, 1, 0, 0, 1 << 20).due(1, "shape", 3).due(NO, "space");
            }
            wraps.rule("fits row < 1;").due(1L << 62, "space").rule("fits row < 2;").due(1, "shape", 3);
        });
        edge(18, "(then its COUNT isn't told)", () -> {
            // there is no answer, but the space is too great
            Run run = of(3, 6, 5).call("row", 0, 1, 1, 0, MOST).call("row", 1, 1, 1, 0, MOST).call("row", 2, 2, 2, 0, 3);
            busy(run).due(1, "shape", 3).refused(NO, "answers").call("copies", 2, 0, 2).due(0, "answers");
        });
    }

    private static void order() {
        edge(17, "All is told in this order;", () -> {
            // a row of the root has the factors 2000000000, then the sums of 0, 1, 2
            Run run = of(1, 2, 4, 7).call("row", 3, 1, 1, 1, MOST).call("row", 0, 1, 0, 0, MOST).call("row", 1, 1, 0, 0, MOST);
            run.due(3, "shape", 2).due(1, "shape", 3).due(NO, "space");
            // 0 ahead of what would be too great
            run.call("remove", 0, 0).call("row", 2, 1, 0, 0, MOST).due(0, "shape", 3).due(0, "space").due(0, "answers")
                .due(0, "weight", 3, 0).call("restore", 0, 0).due(1, "shape", 3);
            // a bound of 0 behind, and ahead of, what is too great
            Run two = of(3, 6, 5, 5).call("row", 0, 1, 1, 0, MOST).call("row", 1, 1, 1, 0, MOST).call("row", 2, 1, 1, 0, 3);
            two.due(1, "shape", 3).call("remove", 2, 0).call("row", 3, 1, 1, 0, 3).due(0, "shape", 3).due(0, "space");
            // what is too great in the tree stays so by a bound of 0
            Run all = of(3, 6, 5).call("row", 0, 1, 1, 0, MOST).call("row", 1, 1, 1, 0, MOST).call("row", 1, 1, 2, 0, MOST);
            all.due(0, "space").call("row", 1, 1, 3, 0, MOST).due(1, "shape", 3)
                .due(NO, "space").due(NO, "bound", 2);
        });
    }

    private static void answers() {
        edge(18, "COUNT.", () -> {
            pair().due(30, "answers");
            ring().due(50, "answers").call("query", 5).due(36, "answers").call("query", 2).due(9, "answers");
        });
        edge(18, "NO: THE QUERY is empty, GREAT.", () -> {
            empty().refused(NO, "answers");
            busy(great()).refused(NO, "answers").call("query", 3).due(4000000000000000000L, "answers");
        });
        edge(18, "COUNT: of all ANSWERS, together, as often as they count.", () -> {
            of(1).due(0, "answers").call("row", 0, 1, 0, 0, 1).due(1, "answers").call("row", 0, 1, 0, 0, 1).due(2, "answers");
            apart().due(0, "answers");
            bad().due(0, "answers").due(1, "space");
            // rows of 0, 1, 2 match and would be too many, but none of 3 matches them
            Run run = of(1, 2, 4, 7).call("row", 0, 1, 0, 0, 1 << 30).call("row", 1, 1, 0, 0, 1 << 30).call("row", 2, 1, 0, 0, 1 << 30)
                .call("row", 3, 2, 1, 1, 5);
            run.due(0, "shape", 3).due(0, "answers").due(1, "dangling", 0).due(1, "dangling", 3).due(0, "values", 0, 1);
            run.call("row", 0, 2, 0, 0, 1).due(0, "shape", 3).due(5L << 60, "answers").due(1, "dangling", 0).due(5L << 60, "values", 0, 2);
        });
    }
}
