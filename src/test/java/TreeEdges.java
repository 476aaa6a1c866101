/** Cases of promises 9 to 11: what a relation is told to be, the query, the tree of its relations. */
final class TreeEdges extends Joins {
    static void all() {
        about();
        query();
        shape();
        match();
        ears();
        trees();
        kept();
    }

    private static void about() {
        edge(9, "Of a RELATION: KIND (what 0)", () -> ring().due(0, "about", 0, 0).due(1, "about", 1, 0).due(4, "about", 2, 0)
            .due(3, "relation", DOUBLED, 1).due(5, "about", 3, 0));
        edge(9, "ATTRIBUTES (1; bits)", () -> none().call("relation", BAG, 1).call("relation", BAG, 56).due(1, "about", 0, 1)
            .due(56, "about", 1, 1));
        edge(9, "how many ROWS (2)", () -> {
            Run run = of(1).due(0, "about", 0, 2);
            for (int row = 1; row <= 8; row++) {
                run.call("row", 0, 0, 0, 0, 1).due(row, "about", 0, 2);
            }
            run.call("row", 0, 0, 0, 0, 1).call("remove", 0, 7).due(8, "about", 0, 2);
        });
        edge(9, "LIVE ones (3; bits)", () -> {
            Run run = of(1).due(0, "about", 0, 3);
            for (int row = 1; row <= 8; row++) {
                run.call("row", 0, 0, 0, 0, 1);
            }
            run.due(255, "about", 0, 3).call("remove", 0, 0).due(254, "about", 0, 3).call("remove", 0, 7).due(126, "about", 0, 3)
                .rule("fits 0;").due(126, "about", 0, 3);
        });
        edge(9, "PARENT in THE TREE (4;", () -> pair().due(1, "about", 0, 4));
        edge(9, "NONE: ROOT;", () -> pair().due(NONE, "about", 1, 4).call("query", 1).due(NONE, "about", 0, 4));
        edge(9, "-6: a CHECK;", () -> ring().due(-6, "about", 2, 4).call("query", 4).due(NONE, "about", 2, 4));
        edge(9, "-7: it isn't of THE QUERY)", () -> ring().call("query", 3).due(-7, "about", 2, 4).call("query", 0)
            .due(-7, "about", 0, 4).due(-7, "about", 1, 4));
        edge(9, "CHILDREN (5; bits)", () -> of(7, 1, 2, 4).due(6, "about", 0, 5).due(0, "about", 1, 5).due(0, "about", 2, 5)
            .due(1, "about", 3, 5).call("query", 8).due(0, "about", 3, 5).due(0, "about", 0, 5));
        edge(9, "CHILDREN (5; bits), ROWS that PASS (6; bits).", () -> ring().due(0, "about", 2, 5).due(1, "about", 1, 5)
            .due(7, "about", 2, 6).call("query", 0).due(0, "about", 1, 5).due(7, "about", 2, 6));
        edge(9, "ROWS that PASS (6; bits).", () -> pair().due(15, "about", 1, 6).rule("fits row = 1 or row = 3;").due(10, "about", 1, 6)
            .call("remove", 1, 3).due(2, "about", 1, 6).call("query", 0).due(2, "about", 1, 6).rule("fits 0;").due(0, "about", 1, 6));
        edge(9, "BAD.", () -> busy(ring()).refused(BAD, "about", 0, -1).refused(BAD, "about", 0, 7).refused(BAD, "about", 3, 0)
            .refused(BAD, "about", -1, 0).refused(BAD, "about", 4, 6).refused(BAD, "about", LEAST_INT, 0)
            .refused(BAD, "about", 0, MOST_INT));
    }

    private static void query() {
        edge(10, "THE QUERY: how many RELATIONS it has.", () -> busy(of(1, 2, 4, 8)).due(0, "query", 0).due(1, "query", 8)
            .due(2, "query", 9).due(3, "query", 13).due(4, "query", 15).due(15, "count", 6));
        edge(10, "BAD: one of these there isn't", () -> {
            busy(none()).refused(BAD, "query", 1).due(0, "query", 0);
            busy(pair()).refused(BAD, "query", 4).refused(BAD, "query", 7).refused(BAD, "query", 8).due(2, "query", 3);
        });
        edge(10, "a number.", () -> busy(of(1, 2, 4, 8)).refused(BAD, "query", -1).refused(BAD, "query", 16).refused(BAD, "query", 31)
            .refused(BAD, "query", LEAST_INT).refused(BAD, "query", MOST_INT).due(4, "query", 15));
    }

    private static void shape() {
        edge(11, "KEPT (what 0; bits)", () -> ring().due(3, "shape", 0).call("query", 6).due(6, "shape", 0).call("query", 4).due(4, "shape", 0));
        edge(11, "CHECKS (1; bits)", () -> ring().due(4, "shape", 1).call("query", 6).due(0, "shape", 1));
        edge(11, "ROOT (2)", () -> ring().due(1, "shape", 2).call("query", 6).due(2, "shape", 2).call("query", 1).due(0, "shape", 2));
        edge(11, "whether THE QUERY is GREAT (3; 1, 0)", () -> great().due(1, "shape", 3).call("query", 3).due(0, "shape", 3)
            .call("query", 7).due(1, "shape", 3).call("copies", 0, 0, 1).due(0, "shape", 3));
        edge(11, "ATTRIBUTES of it (4; bits).", () -> of(1, 6, 40).due(47, "shape", 4).call("query", 5).due(41, "shape", 4)
            .call("query", 1).due(1, "shape", 4));
        edge(11, "BAD;", () -> busy(ring()).refused(BAD, "shape", -1).refused(BAD, "shape", 5).refused(BAD, "shape", LEAST_INT)
            .refused(BAD, "shape", MOST_INT).due(7, "shape", 4));
        edge(11, "STATE: THE QUERY is empty.", () -> {
            for (int what = 0; what < 5; what++) {
                empty().refused(STATE, "shape", what);
            }
        });
        edge(11, "BAD; STATE: THE QUERY is empty.", () -> empty().refused(BAD, "shape", 5).refused(BAD, "shape", -1));
    }

    private static void match() {
        edge(18, "ROWS of two RELATIONS MATCH, if they have the same VALUE for each ATTRIBUTE that both RELATIONS have.", () -> {
            of(7, 14).call("row", 0, 1, 2, 3, 1).call("row", 1, 2, 3, 9, 1).due(1, "answers").call("row", 1, 2, 0, 9, 1)
                .call("row", 1, 0, 3, 9, 1).call("row", 1, 3, 2, 9, 1).due(1, "answers");
            of(1, 2).call("row", 0, 1, 0, 0, 1).call("row", 1, 2, 0, 0, 1).due(1, "answers");
            of(9, 9).call("row", 0, 0, 9, 0, 1).call("row", 1, 0, 9, 0, 1).due(1, "answers").call("row", 1, 0, 8, 0, 1).due(1, "answers");
        });
        edge(18, "AN ANSWER: of each RELATION of THE QUERY one ROW that PASSES, any two of which MATCH", () -> {
            bad().due(0, "answers").call("row", 2, 1, 3, 0, 1).due(1, "answers");
            bad().call("query", 6).due(0, "answers").call("query", 5).due(1, "answers").call("query", 3).due(1, "answers")
                .rule("fits from;").due(0, "answers");
        });
        edge(18, "it counts as often as the product of their WORTHS.", () -> pair().call("query", 3).due(30, "answers")
            .call("copies", 1, 3, 10).due(50, "answers"));
        edge(19, "ROWS of an ANSWER as digits: 1 more than each number, by RELATIONS, the first the highest.", () -> {
            Run run = of(1, 2, 4, 8);
            for (int row = 0; row < 8; row++) {
                run.call("row", 3, row, 0, 0, 1).call("row", 2, row, 0, 0, 1);
            }
            run.call("row", 0, 0, 0, 0, 1).call("row", 1, 0, 0, 0, 1).call("row", 1, 1, 0, 0, 1);
            run.due(1111, "at", 0, 1).call("query", 8).due(8, "at", 7, 1).call("query", 12).due(11, "at", 0, 1).due(88, "at", 63, 1)
                .call("query", 13).due(188, "at", 63, 1);
        });
    }

    private static void ears() {
        edge(11, "EARS, of a set of RELATIONS: one is an EAR of another of the set, if all its ATTRIBUTES that any other of the set has "
            + "are the other one's.", () -> {
                // what no other has does not matter
                of(3, 6).due(1, "about", 0, 4);
                of(41, 1).due(1, "about", 0, 4).due(1, "shape", 2);
                // nothing shared: an ear of each
                of(1, 2, 4).due(1, "about", 0, 4).due(2, "about", 1, 4);
                // one attribute of the shared ones is not the other's
                of(3, 6, 5).due(NONE, "about", 1, 4).due(-6, "about", 2, 4);
                of(7, 3, 4).due(2, "about", 0, 4).due(0, "about", 1, 4);
                // one attribute more, and the other has it
                of(3, 6, 7).due(2, "about", 0, 4).due(2, "about", 1, 4);
            });
        edge(11, "one is an EAR of another of the set", () -> of(1).due(NONE, "about", 0, 4).due(0, "shape", 2).due(1, "shape", 0));
    }

    private static void parents(Run run, int root, int... parents) {
        run.due(root, "shape", 2);
        for (int r = 0; r < parents.length; r++) {
            run.due(parents[r], "about", r, 4);
        }
    }

    private static void trees() {
        edge(11, "TREE of a set: again and again the first that is an EAR of some is taken out", () -> {
            // relation 0 is none at first, and is one once 1 and 2 are out
            parents(of(7, 1, 2, 4), 3, 3, 0, 0, NONE);
            parents(of(1, 7, 2, 4), 3, 1, 3, 1, NONE);
            parents(of(3, 6, 12, 24), 3, 1, 2, 3, NONE);
            parents(of(6, 3, 12), 2, 2, 0, NONE);
        });
        edge(11, "its PARENT being the first of these", () -> {
            parents(of(1, 1, 1, 1), 3, 1, 2, 3, NONE);
            parents(of(1, 2, 3, 3), 3, 2, 2, 3, NONE);
            parents(of(2, 3, 1, 6), 3, 1, 3, 1, NONE);
        });
        edge(11, "till one is left, the ROOT", () -> {
            of(1).due(0, "shape", 2);
            of(1, 2).due(1, "shape", 2).call("query", 1).due(0, "shape", 2);
            of(7, 1, 2).due(2, "shape", 2);
        });
        edge(11, "if none is an EAR while two or more are left, there is no TREE.", () -> {
            parents(of(3, 6, 5), 1, 1, NONE, -6);
            parents(of(3, 6, 12, 9), 2, 1, 2, NONE, -6);
            // an ear is taken out before none is left
            parents(of(3, 6, 8, 5), 2, 1, 2, NONE, -6);
        });
    }

    private static void kept() {
        edge(11, "KEPT: RELATIONS of THE QUERY by numbers, each of which is KEPT, if of those KEPT till then and it there is a TREE", () -> {
            of(3, 6, 5).due(3, "shape", 0).call("query", 5).due(5, "shape", 0).call("query", 6).due(6, "shape", 0);
            of(5, 6, 3).due(3, "shape", 0);
            // with 7 the ring would have a tree, but it comes too late
            of(3, 6, 5, 7).due(11, "shape", 0).due(4, "shape", 1);
            of(7, 3, 6, 5).due(15, "shape", 0).due(0, "shape", 1);
        });
        edge(11, "others are CHECKS.", () -> {
            of(3, 6, 5, 13).due(3, "shape", 0).due(12, "shape", 1);
            of(3, 6, 5, 6).due(11, "shape", 0).due(4, "shape", 1);
            of(3).due(0, "shape", 1);
            of(8, 3, 6, 5).due(7, "shape", 0).due(8, "shape", 1).call("query", 14).due(6, "shape", 0).due(8, "shape", 1);
        });
        edge(11, "THE TREE is that of all KEPT.", () -> {
            // of 0, 1 alone the root is 1
            parents(of(3, 6, 5, 7), 3, 3, 3, -6, NONE);
            Run run = of(3, 6, 5, 12);
            parents(run, 3, 1, 3, -6, NONE);
            parents(run.call("query", 14), 3, -7, 2, 3, NONE);
        });
    }
}
