/** Objects that many cases begin with. */
class Joins extends Edges {
    static Run none() {
        return new Run();
    }

    /** BAGS of these attributes, all of them asked. */
    static Run of(int... attributes) {
        Run run = new Run();
        for (int a : attributes) {
            run.call("relation", BAG, a);
        }
        return run.call("query", (1 << attributes.length) - 1);
    }

    /** Relation 0 (a b): 1 2, 1 3, 2 2 by 1, 2, 3 copies; relation 1, a SET (b c): 2 5, 3 5, 3 6, 2 7 by 1, 2, 1, 5. 30 answers. */
    static Run pair() {
        return new Run().call("relation", BAG, 3)
            .call("row", 0, 1, 2, 0, 1).call("row", 0, 1, 3, 0, 2).call("row", 0, 2, 2, 0, 3)
            .call("relation", SET, 6)
            .call("row", 1, 2, 5, 0, 1).call("row", 1, 3, 5, 0, 2).call("row", 1, 3, 6, 0, 1).call("row", 1, 2, 7, 0, 5)
            .call("query", 3);
    }

    /** The pair and a CHECK, CAPPED (a c): 1 5, 2 6, 1 7 by 9 (50 copies), 2, 1. 50 answers in a space of 270. */
    static Run ring() {
        return pair().call("relation", CAPPED, 5)
            .call("row", 2, 1, 5, 0, 50).call("row", 2, 2, 6, 0, 2).call("row", 2, 1, 7, 0, 1)
            .call("query", 7);
    }

    /** Three that share nothing, of one row of 2000000000 copies each: 8 * 10 ^ 27 answers. */
    static Run great() {
        Run run = of(1, 2, 4);
        for (int r = 0; r < 3; r++) {
            run.call("row", r, r, 0, 0, MOST);
        }
        return run;
    }

    /** Two whose rows do not match: a space of 0. */
    static Run apart() {
        return of(3, 6).call("row", 0, 1, 2, 0, 1).call("row", 1, 3, 4, 0, 1);
    }

    /** Three whose rows match two by two, but not all three: a space of 1, its one position not good. */
    static Run bad() {
        return of(3, 6, 5).call("row", 0, 1, 2, 0, 1).call("row", 1, 2, 3, 0, 1).call("row", 2, 1, 4, 0, 1);
    }

    /** One relation (a) of one row, as often as n copies. */
    static Run one(long n) {
        return of(1).call("row", 0, 1, 0, 0, n);
    }

    /**
     * The run with something in every part of the object: texts, a rule that is not the first, an image, sheets of each
     * sort (3 is missing), a slate, a tape. So a refused call that changed something would be seen.
     */
    static Run busy(Run run) {
        return run.text("fits 1 ;").rule("fits not 0 ;").call("image")
            .lay(0, LONGS, 1L << 40, -7).lay(1, INTS, 8, 0).call("sheet", 2, BYTES, 13).call("put", 2, 12, 9)
            .call("strip", 1, 0).feed("fits row");
    }

    /** Something in every part, and no query. */
    static Run empty() {
        return busy(ring()).call("query", 0);
    }
}
