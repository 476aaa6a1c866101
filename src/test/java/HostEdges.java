/** Cases of promises 32 to 42: what was told, the image, the sheets. */
final class HostEdges extends Joins {
    static void all() {
        tells();
        told();
        film();
        image();
        kept();
        count();
        sheet();
        put();
        item();
        copy();
        load();
        loaded();
        taken();
    }

    private static void tells() {
        edge(32, "TOLD: the first that is otherwise (what 0; NONE)", () -> {
            Run run = ring().call("film", 0, 12).due(NONE, "tells", 0, 0).call("put", 0, 11, 999).due(11, "tells", 0, 0)
                .call("put", 0, 3, 999).due(3, "tells", 0, 0).call("put", 0, 0, 999).due(0, "tells", 0, 0);
            run.call("sheet", 0, INTS, 0).due(NONE, "tells", 0, 0);
        });
        edge(32, "TEXTS (1)", () -> pair().text("fits 1;").text("fits 0;").text("fits not 0;").call("film", 0, 6).due(11, "tells", 0, 1)
            .call("force", 2).due(11, "tells", 0, 1).due(2, "count", 5).call("film", 0, 1).due(4, "tells", 0, 1));
        edge(32, "QUERIES (2).", () -> ring().call("film", 0, 12).due(128, "tells", 0, 2).call("sheet", 0, INTS, 0).due(254, "tells", 0, 2)
            .due(7, "count", 6));
        edge(32, "BAD: SHEET, what;", () -> busy(ring()).refused(BAD, "tells", -1, 0).refused(BAD, "tells", 4, 0)
            .refused(BAD, "tells", LEAST_INT, 0).refused(BAD, "tells", MOST_INT, 0).refused(BAD, "tells", 0, -1).refused(BAD, "tells", 0, 3)
            .refused(BAD, "tells", 0, LEAST_INT).refused(BAD, "tells", 0, MOST_INT));
        edge(32, "STATE: THE QUERY is empty;", () -> empty().refused(STATE, "tells", 0, 0).refused(STATE, "tells", 0, 1)
            .refused(STATE, "tells", 0, 2));
        edge(32, "GREAT;", () -> busy(great()).refused(GREAT, "tells", 0, 0).refused(GREAT, "tells", 0, 1).refused(GREAT, "tells", 0, 2));
        edge(32, "-11;", () -> busy(ring()).refused(NOTHING, "tells", 3, 0).refused(NOTHING, "tells", 3, 2));
        edge(32, "BAD: it tells more than 12.", () -> busy(ring()).refused(BAD, "tells", 2, 0).refused(BAD, "tells", 2, 1)
            .refused(BAD, "tells", 2, 2).call("sheet", 2, LONGS, 12).due(0, "tells", 2, 0));
        edge(32, "BAD: SHEET, what; STATE: THE QUERY is empty; GREAT; -11; BAD: it tells more than 12.", () -> {
            empty().refused(BAD, "tells", 4, 0).refused(BAD, "tells", 3, 3).refused(STATE, "tells", 3, 0).refused(STATE, "tells", 2, 0);
            busy(great()).refused(BAD, "tells", 4, 0).refused(BAD, "tells", 3, 3).refused(GREAT, "tells", 3, 0).refused(GREAT, "tells", 2, 0);
            busy(ring()).refused(BAD, "tells", 3, 3);
        });
    }

    private static void told() {
        edge(32, "TOLD: a SHEET tells ANSWERS (as digits) of DRAW by SEEDS 0, 1, .. (NONE): the first (from 0) that is otherwise; NONE;", () -> {
            Run run = pair();
            long first = run.ask("draw", 0, 0);
            run.lay(0, LONGS, first, run.ask("draw", 1, 0)).due(NONE, "tells", 0, 0);
            // an item of longs is taken as it is; bytes tell what they are
            run.lay(0, LONGS, (1L << 32) + first).due(0, "tells", 0, 0).lay(0, BYTES, first).due(NONE, "tells", 0, 0);
            bad().lay(0, BYTES, -1, -1, -1).due(NONE, "tells", 0, 0).call("put", 0, 2, 111).due(2, "tells", 0, 0);
            apart().lay(0, INTS, -1, -1, 0).due(2, "tells", 0, 0);
        });
        edge(32, "TEXTS (bits), QUERIES (bits 0 .. 15) by which, were they THE RULE, THE QUERY, all would be so", () -> {
            // no item: all of them
            Run run = of(1, 2, 4, 8);
            for (int text = 1; text < 6; text++) {
                run.text("fits " + text + ";");
            }
            run.lay(0, INTS).due(63, "tells", 0, 1).due(65534, "tells", 0, 2);
            // one row each: of two relations 11, of three 111
            for (int r = 0; r < 4; r++) {
                run.call("row", r, 1, 0, 0, 1);
            }
            run.lay(0, INTS, 11).due(0b0001011001101000, "tells", 0, 2).due(0, "tells", 0, 1).lay(0, INTS, 1)
                .due(0b0000000100010110, "tells", 0, 2).lay(0, INTS, 1111, 1111).due(1 << 15, "tells", 0, 2).due(63, "tells", 0, 1)
                .lay(0, INTS, 1111, 111).due(0, "tells", 0, 2).due(0, "tells", 0, 1).due(1, "tells", 0, 0);
            // NONE where the space is 0
            pair().text("fits 0;").text("fits from;").lay(0, INTS, -1, -1).due(6, "tells", 0, 1).due(0, "tells", 0, 2)
                .call("force", 2).due(2 | 8, "tells", 0, 2);
        });
        edge(32, "(not, by one of RELATIONS that there aren't, by none, or by a GREAT one).", () -> {
            of(1).lay(0, INTS).due(2, "tells", 0, 2);
            pair().lay(0, INTS).due(14, "tells", 0, 2);
            // 7 is great
            great().call("query", 3).lay(0, INTS).due(126, "tells", 0, 2);
            // by text 0 the query is great, by text 1 it is not
            great().text("fits from;").rule("fits not from;").call("query", 7).lay(0, INTS, -1).due(6, "tells", 0, 1)
                .due(0b11101000 | 0b01010100, "tells", 0, 2);
        });
    }

    private static void film() {
        edge(33, "A SHEET truly becomes what DRAW tells by SEEDS 0 .. n - 1", () -> {
            Run run = ring().call("sheet", 0, BYTES, 40).due(12, "film", 0, 12).due(NO, "item", 0, 12);
            for (int seed = 0; seed < 12; seed++) {
                run.due(run.ask("draw", seed, 0), "item", 0, seed);
            }
            run.due(1, "film", 0, 1).due(NO, "item", 0, 1).due(OUTSIDE, "put", 0, 1, 0).call("remove", 0, 0).due(221, "item", 0, 0);
        });
        edge(33, "(n 0 .. 12; ints;", () -> {
            busy(ring()).due(0, "film", 3, 0).due(NO, "item", 3, 0).due(OUTSIDE, "put", 3, 0, 0).due(0, "copy", 3, 0, 1, 0, 0)
                .due(OTHER, "copy", 3, 0, 0, 0, 0).due(12, "film", 0, 12).due(1, "put", 0, 11, 1L << 32 | 5).due(5, "item", 0, 11);
            busy(ring()).refused(BAD, "film", 0, 13).refused(BAD, "film", 0, -1).refused(BAD, "film", 0, LEAST_INT)
                .refused(BAD, "film", 0, MOST_INT);
        });
        edge(33, "NONE also if SPACE is 0): n.", () -> apart().due(2, "film", 0, 2).due(NONE, "item", 0, 0).due(NONE, "item", 0, 1));
        edge(33, "BAD;", () -> busy(ring()).refused(BAD, "film", -1, 1).refused(BAD, "film", 4, 1).refused(BAD, "film", LEAST_INT, 1)
            .refused(BAD, "film", MOST_INT, 1).due(1, "film", 3, 1));
        edge(33, "STATE: THE QUERY is empty;", () -> empty().refused(STATE, "film", 0, 1).refused(STATE, "film", 0, 0));
        edge(33, "GREAT.", () -> busy(great()).refused(GREAT, "film", 0, 1).refused(GREAT, "film", 3, 0));
        edge(33, "BAD; STATE: THE QUERY is empty; GREAT.", () -> {
            empty().refused(BAD, "film", 4, 1).refused(BAD, "film", 0, 13);
            busy(great()).refused(BAD, "film", 4, 1).refused(BAD, "film", 0, 13);
        });
    }

    private static void image() {
        edge(34, "AN IMAGE is kept: how many RELATIONS.", () -> {
            none().due(0, "image").due(0, "back");
            of(1, 2, 4, 8).due(4, "image");
            // the later one counts
            pair().due(2, "image").call("copies", 0, 0, 5).due(2, "image").call("copies", 0, 0, 6).due(2, "back").due(5, "told", 0, 0, 3);
        });
        edge(35, "STATE: there is none.", () -> none().refused(STATE, "back").call("relation", BAG, 1).refused(STATE, "back")
            .call("image").due(1, "back"));
        edge(35, "All that it keeps is as in THE IMAGE: how many RELATIONS.", () -> {
            Run run = pair().call("image").call("relation", BAG, 1).due(2, "back").due(2, "back").due(2, "count", 0);
            run.call("copies", 0, 0, 9).call("query", 1).due(2, "back").due(30, "answers");
            none().call("image").call("relation", BAG, 1).call("row", 0, 1, 0, 0, 1).call("query", 1).due(0, "back").due(0, "count", 1)
                .due(0, "count", 6).due(BAD, "row", 0, 1, 0, 0, 1).due(BAD, "query", 1);
        });
    }

    private static void kept() {
        edge(35, "AN IMAGE keeps THE QUERY, THE RULE,", () -> pair().text("fits 0;").call("image").call("query", 2).call("force", 1)
            .due(0, "answers").call("back").due(3, "count", 6).due(0, "count", 5).due(30, "answers")
            .call("query", 1).call("force", 1).call("image").call("query", 3).call("force", 0).call("back").due(1, "count", 6)
            .due(1, "count", 5).due(0, "answers"));
        edge(35, "of ROWS COPIES, whether LIVE", () -> {
            Run run = pair().call("remove", 0, 0).call("image").call("restore", 0, 0).call("remove", 1, 3).call("copies", 0, 1, 77)
                .call("copies", 1, 0, MOST).call("back");
            run.due(6, "about", 0, 3).due(15, "about", 1, 3).due(2, "told", 0, 1, 3).due(1, "told", 1, 0, 3).due(24, "answers");
            // a row is live again whatever kind: the one alike came since
            none().call("relation", SET, 1).call("row", 0, 1, 0, 0, 1).call("image").call("remove", 0, 0).call("row", 0, 1, 0, 0, 2)
                .due(1, "back").due(1, "about", 0, 2).due(1, "about", 0, 3).due(STATE, "row", 0, 1, 0, 0, 1);
        });
        edge(35, "(RELATIONS, ROWS that came since go).", () -> {
            Run run = pair().call("image").call("row", 0, 5, 5, 0, 1).call("relation", DOUBLED, 9).call("row", 2, 1, 1, 0, 1).call("query", 7);
            run.due(2, "back").due(2, "count", 0).due(7, "count", 1).due(3, "about", 0, 2).refused(BAD, "about", 2, 0)
                .refused(BAD, "told", 0, 3, 0).due(3, "row", 0, 7, 8, 0, 9).due(7, "told", 0, 3, 0).due(9, "told", 0, 3, 3)
                .due(2, "relation", SET, 16).due(0, "about", 2, 2).due(0, "about", 2, 3).due(16, "about", 2, 1).due(SET, "about", 2, 0)
                .due(0, "row", 2, 1, 1, 0, 4).due(4, "told", 2, 0, 3).due(2, "back").due(3, "about", 0, 2);
            // there is room again
            Run full = of(1, 2, 4).call("image").call("relation", BAG, 1).refused(FULL, "relation", BAG, 1).call("back");
            full.due(3, "relation", BAG, 1);
            for (int row = 0; row < 8; row++) {
                full.call("row", 0, 1, 0, 0, 1);
            }
            full.refused(FULL, "row", 0, 1, 0, 0, 1).call("back").due(0, "row", 0, 1, 0, 0, 1);
        });
        edge(35, "AN IMAGE keeps THE QUERY, THE RULE, of ROWS COPIES, whether LIVE (RELATIONS, ROWS that came since go).", () -> {
            // texts, the tape, sheets and the slate are not kept
            Run run = ring().call("image").text("fits 0;").feed("fit").lay(0, INTS, 8, 0).call("strip", 0, 0).call("sheet", 1, LONGS, 3);
            run.due(3, "back").due(2, "count", 3).due(3, "count", 4).due(8, "item", 0, 0).due(2, "count", 7).due(0, "slate", 0)
                .due(0, "item", 1, 2).due(0, "force", 1);
        });
    }

    private static void count() {
        edge(36, "How many: 0 RELATIONS", () -> none().due(0, "count", 0).call("relation", BAG, 1).due(1, "count", 0)
            .call("relation", BAG, 1).call("relation", BAG, 1).call("relation", BAG, 1).call("relation", BAG, 1).due(4, "count", 0));
        edge(36, "1 ROWS of all, 2 of these LIVE", () -> {
            ring().due(10, "count", 1).due(10, "count", 2).call("remove", 0, 0).due(10, "count", 1).due(9, "count", 2)
                .call("query", 0).due(10, "count", 1).rule("fits 0;").due(9, "count", 2);
            Run run = of(1, 1, 1, 1);
            for (int row = 0; row < 32; row++) {
                run.call("row", row / 8, 1, 0, 0, 1);
            }
            run.due(32, "count", 1).due(32, "count", 2);
        });
        edge(36, "3 TEXTS", () -> none().due(1, "count", 3).call("text").due(1, "count", 3).text("fits 1;").due(2, "count", 3));
        edge(36, "4 bytes of THE TAPE", () -> none().due(0, "count", 4).feed(" ".repeat(160)).due(160, "count", 4).call("feed", 1)
            .due(160, "count", 4).call("text").due(0, "count", 4));
        edge(36, "5 THE RULE", () -> none().due(0, "count", 5).rule("fits 1;").due(1, "count", 5).call("force", 2).due(1, "count", 5));
        edge(36, "6 THE QUERY (bits)", () -> of(1, 2, 4, 8).due(15, "count", 6).call("query", 5).due(5, "count", 6).call("query", 0)
            .due(0, "count", 6));
        edge(36, "7 items of THE SLATE.", () -> ring().due(0, "count", 7).lay(0, INTS, 8, 0).call("strip", 0, 0).due(2, "count", 7));
        edge(36, "BAD.", () -> busy(ring()).refused(BAD, "count", -1).refused(BAD, "count", 8).refused(BAD, "count", LEAST_INT)
            .refused(BAD, "count", MOST_INT));
    }

    private static void sheet() {
        edge(37, "A SHEET becomes a row of n of a sort, all 0", () -> {
            Run run = none().due(1, "sheet", 0, LONGS, 0).due(OUTSIDE, "put", 0, 0, 1).due(1, "sheet", 0, LONGS, 40).due(1, "put", 0, 39, 7)
                .due(OUTSIDE, "put", 0, 40, 7).due(1, "sheet", 0, LONGS, 40).due(0, "item", 0, 39).call("put", 0, 0, 7)
                .due(1, "sheet", 0, INTS, 1).due(0, "item", 0, 0).due(NO, "item", 0, 1);
            run.call("put", 0, 0, 7).call("sheet", 0, INTS, 0).call("sheet", 0, INTS, 1).due(0, "item", 0, 0);
        });
        edge(37, "or missing (sort -1: n does not matter): 1.", () -> {
            for (int n : new int[] {0, -1, 41, LEAST_INT, MOST_INT}) {
                none().lay(0, LONGS, 1).due(1, "sheet", 0, -1, n).due(NOTHING, "put", 0, 0, 1).due(NO, "item", 0, 0)
                    .due(1, "sheet", 0, -1, n).due(1, "sheet", 0, BYTES, 1).due(0, "item", 0, 0);
            }
        });
        edge(37, "BAD: no such SHEET", () -> busy(ring()).refused(BAD, "sheet", -1, 0, 1).refused(BAD, "sheet", 4, 0, 1)
            .refused(BAD, "sheet", -1, -1, 1).refused(BAD, "sheet", LEAST_INT, 0, 1).refused(BAD, "sheet", MOST_INT, 0, 1)
            .due(1, "sheet", 3, 0, 1));
        edge(37, "sort; n above 40;", () -> {
            busy(ring()).refused(BAD, "sheet", 0, -2, 1).refused(BAD, "sheet", 0, 3, 1).refused(BAD, "sheet", 0, LEAST_INT, 1)
                .refused(BAD, "sheet", 0, MOST_INT, 1).due(1, "sheet", 0, 2, 1);
            busy(ring()).refused(BAD, "sheet", 0, 0, 41).refused(BAD, "sheet", 0, 1, MOST_INT).due(1, "sheet", 0, 2, 40);
        });
        edge(37, "-14.", () -> busy(ring()).refused(BELOW, "sheet", 0, 0, -1).refused(BELOW, "sheet", 3, 2, LEAST_INT).due(1, "sheet", 0, 0, 0));
        edge(37, "BAD: no such SHEET, sort; n above 40; -14.", () -> busy(ring()).refused(BAD, "sheet", 4, 0, -1).refused(BAD, "sheet", 0, 3, -1)
            .refused(BAD, "sheet", 0, -2, -1));
        edge(37, "SHEETS 0 .. 3 are rows of numbers, or missing (as all are at first): of sort 0 longs, 1 ints, 2 bytes.", () -> none()
            .lay(0, 0, 1L << 40 | 200).lay(1, 1, 1L << 40 | 200).lay(2, 2, 1L << 40 | 200).due(1L << 40 | 200, "item", 0, 0)
            .due(200, "item", 1, 0).due(-56, "item", 2, 0).due(NO, "item", 3, 0).lay(3, 0, -1).due(-1, "item", 3, 0));
    }

    private static void put() {
        edge(38, "Item i of a SHEET becomes v", () -> none().call("sheet", 0, LONGS, 2).due(1, "put", 0, 0, LEAST_LONG)
            .due(1, "put", 0, 1, MOST_LONG).due(LEAST_LONG, "item", 0, 0).due(MOST_LONG, "item", 0, 1).due(1, "put", 0, 0, NO).due(NO, "item", 0, 0)
            .due(MOST_LONG, "item", 0, 1));
        edge(38, "(of ints, bytes its lowest 32, 8 bits): 1.", () -> {
            Run run = none().call("sheet", 1, INTS, 2).call("sheet", 2, BYTES, 2);
            long[][] lowest = {{MOST_INT, MOST_INT, -1}, {MOST_INT + 1L, LEAST_INT, 0}, {LEAST_INT, LEAST_INT, 0}, {LEAST_INT - 1L, MOST_INT, -1},
                {127, 127, 127}, {128, 128, -128}, {-128, -128, -128}, {-129, -129, 127}, {255, 255, -1}, {256, 256, 0}, {1L << 32, 0, 0},
                {MOST_LONG, -1, -1}, {LEAST_LONG, 0, 0}};
            for (long[] v : lowest) {
                run.due(1, "put", 1, 1, v[0]).due(v[1], "item", 1, 1).due(1, "put", 2, 1, v[0]).due(v[2], "item", 2, 1);
            }
            run.due(0, "item", 1, 0).due(0, "item", 2, 0);
        });
        edge(38, "BAD: no such SHEET;", () -> busy(ring()).refused(BAD, "put", -1, 0, 1).refused(BAD, "put", 4, 0, 1)
            .refused(BAD, "put", LEAST_INT, 0, 1).refused(BAD, "put", MOST_INT, 0, 1));
        edge(38, "-11;", () -> busy(ring()).refused(NOTHING, "put", 3, 0, 1));
        edge(38, "-12.", () -> busy(ring()).refused(OUTSIDE, "put", 0, 2, 1).refused(OUTSIDE, "put", 0, -1, 1)
            .refused(OUTSIDE, "put", 0, LEAST_INT, 1).refused(OUTSIDE, "put", 0, MOST_INT, 1).due(1, "put", 0, 1, 1));
        edge(38, "BAD: no such SHEET; -11; -12.", () -> busy(ring()).refused(BAD, "put", 4, -1, 1).refused(NOTHING, "put", 3, -1, 1));
    }

    private static void item() {
        edge(39, "Item i of a SHEET.", () -> none().lay(0, LONGS, 5, LEAST_LONG).due(5, "item", 0, 0).due(LEAST_LONG, "item", 0, 1));
        edge(39, "NO: no such SHEET", () -> busy(ring()).refused(NO, "item", -1, 0).refused(NO, "item", 4, 0).refused(NO, "item", LEAST_INT, 0)
            .refused(NO, "item", MOST_INT, 0));
        edge(39, "it is missing", () -> busy(ring()).refused(NO, "item", 3, 0).call("sheet", 0, -1, 0).refused(NO, "item", 0, 0));
        edge(39, "no such item.", () -> {
            busy(ring()).refused(NO, "item", 0, 2).refused(NO, "item", 0, -1).refused(NO, "item", 0, LEAST_INT).refused(NO, "item", 0, MOST_INT)
                .due(-7, "item", 0, 1);
            none().call("sheet", 0, BYTES, 0).due(NO, "item", 0, 0).call("sheet", 0, BYTES, 40).due(0, "item", 0, 39).due(NO, "item", 0, 40);
        });
    }

    private static void items(Run run, int sheet, long... items) {
        for (int i = 0; i < items.length; i++) {
            run.due(items[i], "item", sheet, i);
        }
        run.due(OUTSIDE, "put", sheet, items.length, 0);
    }

    private static void copy() {
        edge(40, "n numbers of a SHEET, from item i on, come to another one's item j on", () -> {
            Run run = none().lay(0, LONGS, 1, 2, 3, 4, 5).lay(1, LONGS, 9, 9, 9);
            items(run.due(2, "copy", 0, 1, 1, 0, 2), 1, 2, 3, 9);
            items(run.due(1, "copy", 0, 4, 1, 2, 1), 1, 2, 3, 5);
            items(run.due(3, "copy", 1, 0, 0, 2, 3), 0, 1, 2, 2, 3, 5);
            items(run.due(0, "copy", 1, 3, 0, 5, 0), 0, 1, 2, 2, 3, 5);
            items(none().lay(2, BYTES, 7, -1).lay(3, BYTES, 1, 1).due(2, "copy", 2, 0, 3, 0, 2), 3, 7, -1);
        });
        edge(40, "(as they were): n.", () -> {
            items(none().lay(0, LONGS, 1, 2, 3, 4, 5).due(4, "copy", 0, 0, 0, 1, 4), 0, 1, 1, 2, 3, 4);
            items(none().lay(0, LONGS, 1, 2, 3, 4, 5).due(4, "copy", 0, 1, 0, 0, 4), 0, 2, 3, 4, 5, 5);
            items(none().lay(0, INTS, 1, 2, 3).due(3, "copy", 0, 0, 0, 0, 3), 0, 1, 2, 3);
        });
        edge(40, "BAD: no such SHEET;", () -> busy(ring()).refused(BAD, "copy", -1, 0, 0, 0, 1).refused(BAD, "copy", 4, 0, 0, 0, 1)
            .refused(BAD, "copy", 0, 0, -1, 0, 1).refused(BAD, "copy", 0, 0, 4, 0, 1).refused(BAD, "copy", MOST_INT, 0, LEAST_INT, 0, 1));
        edge(40, "-11;", () -> busy(ring()).refused(NOTHING, "copy", 0, 0, 3, 0, 1).refused(NOTHING, "copy", 3, 0, 0, 0, 1)
            .refused(NOTHING, "copy", 3, 0, 3, 0, 0).refused(NOTHING, "copy", 0, 0, 3, 0, 0));
        edge(40, "-13: they are of unlike sorts;", () -> busy(ring()).refused(OTHER, "copy", 0, 0, 1, 0, 1).refused(OTHER, "copy", 1, 0, 0, 0, 1)
            .refused(OTHER, "copy", 1, 0, 2, 0, 1).refused(OTHER, "copy", 2, 0, 0, 0, 0));
        edge(40, "-12 (also with n below 0).", () -> {
            Run run = busy(ring()).call("sheet", 3, LONGS, 1);
            run.refused(OUTSIDE, "copy", 0, 0, 3, 0, 2).refused(OUTSIDE, "copy", 0, 1, 0, 0, 2).refused(OUTSIDE, "copy", 0, 0, 0, 1, 2)
                .refused(OUTSIDE, "copy", 0, -1, 3, 0, 1).refused(OUTSIDE, "copy", 0, 0, 3, -1, 1).refused(OUTSIDE, "copy", 0, 0, 3, 0, -1);
            run.due(1, "copy", 0, 1, 3, 0, 1);
            Run ends = busy(ring()).refused(OUTSIDE, "copy", 0, 3, 0, 0, 0).refused(OUTSIDE, "copy", 0, 0, 0, 3, 0)
                .refused(OUTSIDE, "copy", 0, -1, 0, 0, 0).refused(OUTSIDE, "copy", 0, 1, 0, 1, MOST_INT);
            ends.refused(OUTSIDE, "copy", 0, MOST_INT, 0, MOST_INT, MOST_INT).refused(OUTSIDE, "copy", 0, LEAST_INT, 0, 0, 1)
                .refused(OUTSIDE, "copy", 0, 0, 0, 0, LEAST_INT).due(0, "copy", 0, 2, 0, 2, 0).due(2, "copy", 0, 0, 0, 0, 2);
        });
        edge(40, "BAD: no such SHEET; -11; -13: they are of unlike sorts; -12 (also with n below 0).", () -> busy(ring())
            .refused(BAD, "copy", 3, 9, 4, 9, -1).refused(BAD, "copy", 4, 9, 3, 9, -1).refused(NOTHING, "copy", 3, 9, 0, 9, -1)
            .refused(NOTHING, "copy", 1, -1, 3, 9, -1).refused(OTHER, "copy", 0, -1, 1, 9, -1).refused(OUTSIDE, "copy", 0, -1, 0, 9, -1));
    }

    private static void load() {
        edge(41, "n of them (0 .. 8): how many came (others are left out).", () -> {
            Run run = of(1, 1).call("sheet", 0, BYTES, 33);
            for (int i = 0; i < 33; i++) {
                run.call("put", 0, i, i % 4 == 0 ? i / 4 : 1);
            }
            run.due(0, "load", 0, 0, BYTES, 0, 0).due(0, "count", 1).due(8, "load", 0, 0, BYTES, 0, 8).due(7, "told", 0, 7, 0);
            // the relation is full: all are left out
            run.due(0, "load", 0, 0, BYTES, 0, 8).due(3, "load", 0, 1, BYTES, 0, 3);
            // three of eight are bad, two are not taken
            none().call("relation", SET, 1).lay(0, INTS, 1, 0, 0, 1, 10, 0, 0, 1, 2, 0, 0, 0, -1, 0, 0, 1, 1, 0, 0, 5, 3, 0, 0, 2, 3, 0, 0, 1,
                4, 99, -99, MOST).due(3, "load", 0, 0, INTS, 0, 8).due(1, "told", 0, 0, 0).due(3, "told", 0, 1, 0).due(4, "told", 0, 2, 0)
                .due(MOST, "told", 0, 2, 3);
        });
        edge(41, "BAD: no such SHEET, RELATION, sort, n;", () -> busy(ring()).refused(BAD, "load", -1, 0, 0, 0, 1)
            .refused(BAD, "load", 4, 0, 0, 0, 1).refused(BAD, "load", 0, -1, 0, 0, 1).refused(BAD, "load", 0, 3, 0, 0, 1)
            .refused(BAD, "load", 0, 0, -1, 0, 1).refused(BAD, "load", 0, 0, 3, 0, 1).refused(BAD, "load", 0, 0, 0, 0, -1)
            .refused(BAD, "load", 0, 0, 0, 0, 9).refused(BAD, "load", 0, 0, 0, 0, MOST_INT).refused(BAD, "load", LEAST_INT, 0, 0, 0, 1));
        edge(41, "-13;", () -> busy(ring()).refused(OTHER, "load", 0, 0, INTS, 0, 0).refused(OTHER, "load", 0, 0, BYTES, 0, 1)
            .refused(OTHER, "load", 2, 0, LONGS, 0, 1).refused(OTHER, "load", 1, 0, LONGS, 0, 1));
        edge(41, "-11;", () -> busy(ring()).refused(NOTHING, "load", 3, 0, LONGS, 0, 1).refused(NOTHING, "load", 3, 0, BYTES, 0, 1)
            .refused(NOTHING, "load", 3, 0, INTS, 0, 0));
        edge(41, "BAD: no such SHEET, RELATION, sort, n; -13; -11; -12: what stood ahead came.", () -> busy(ring())
            .refused(BAD, "load", 4, 0, 0, 9, 1).refused(BAD, "load", 3, 3, 0, 0, 1).refused(BAD, "load", 0, 0, 3, 0, 1)
            .refused(BAD, "load", 0, 0, 1, -1, 9).refused(OTHER, "load", 0, 0, INTS, -1, 1).refused(NOTHING, "load", 3, 0, INTS, -1, 1)
            .refused(OUTSIDE, "load", 0, 0, LONGS, -1, 1));
    }

    private static void loaded() {
        edge(41, "ROWS of a RELATION by a SHEET that is taken for one of a sort: from one on, four by four (x, y, z, copies;", () -> {
            for (int sort = LONGS; sort <= BYTES; sort++) {
                none().call("relation", BAG, 7).lay(1, sort, 99, 1, 2, 3, 4, 5, 6, 7, 8).due(2, "load", 1, 0, sort, 1, 2)
                    .due(1, "told", 0, 0, 0).due(2, "told", 0, 0, 1).due(3, "told", 0, 0, 2).due(4, "told", 0, 0, 3)
                    .due(5, "told", 0, 1, 0).due(8, "told", 0, 1, 3).due(99, "item", 1, 0);
            }
        });
        edge(41, "of longs their lowest 32 bits)", () -> none().call("relation", BAG, 7)
            .lay(0, LONGS, 1L << 32, (7L << 32) + 9, LEAST_LONG, (1L << 40) + MOST).due(1, "load", 0, 0, LONGS, 0, 1)
            .due(0, "told", 0, 0, 0).due(9, "told", 0, 0, 1).due(0, "told", 0, 0, 2).due(MOST, "told", 0, 0, 3)
            .lay(0, LONGS, 1, 1, 1, 1L << 32).due(0, "load", 0, 0, LONGS, 0, 1).lay(0, LONGS, 10, 1, 1, 1).due(0, "load", 0, 0, LONGS, 0, 1));
        edge(41, "-12: what stood ahead came.", () -> {
            // all four items of a row must be there
            Run run = of(1).lay(0, INTS, 1, 0, 0, 1, 2, 0, 0, 1, 3, 0, 0);
            run.due(2, "load", 0, 0, INTS, 0, 2).due(OUTSIDE, "load", 0, 0, INTS, 0, 3).due(4, "count", 1).due(4, "answers")
                .due(OUTSIDE, "load", 0, 0, INTS, 4, 8).due(5, "count", 1).due(2, "told", 0, 4, 0);
            busy(of(1)).call("sheet", 0, INTS, 4).call("put", 0, 3, 1).refused(OUTSIDE, "load", 0, 0, INTS, 1, 1)
                .refused(OUTSIDE, "load", 0, 0, INTS, -1, 1).refused(OUTSIDE, "load", 0, 0, INTS, 4, 1)
                .refused(OUTSIDE, "load", 0, 0, INTS, MOST_INT, 8).refused(OUTSIDE, "load", 0, 0, INTS, LEAST_INT, 8)
                .refused(OUTSIDE, "load", 0, 0, INTS, -4, 2).due(1, "load", 0, 0, INTS, 0, 1);
            // none is looked at
            of(1).lay(0, INTS).due(0, "load", 0, 0, INTS, 0, 0).due(0, "load", 0, 0, INTS, 5, 0).due(OUTSIDE, "load", 0, 0, INTS, 0, 1);
        });
    }

    private static void taken() {
        edge(42, "A RELATION taken for one of KIND k (0 .. 5)", () -> {
            for (int kind = BAG; kind <= DOUBLED; kind++) {
                none().call("relation", kind, 1).due(kind, "taken", 0, kind);
            }
        });
        edge(42, "or one under that one (also by others between): its KIND.", () -> {
            none().call("relation", SET, 1).due(SET, "taken", 0, BAG);
            none().call("relation", LOG, 1).due(LOG, "taken", 0, BAG);
            none().call("relation", KEYED, 1).due(KEYED, "taken", 0, SET).due(KEYED, "taken", 0, BAG);
            none().call("relation", CAPPED, 1).due(CAPPED, "taken", 0, LOG).due(CAPPED, "taken", 0, BAG);
            none().call("relation", DOUBLED, 1).due(DOUBLED, "taken", 0, KEYED).due(DOUBLED, "taken", 0, SET).due(DOUBLED, "taken", 0, BAG);
        });
        edge(42, "BAD: k;", () -> busy(ring()).refused(BAD, "taken", 0, -1).refused(BAD, "taken", 0, 6).refused(BAD, "taken", 0, LEAST_INT)
            .refused(BAD, "taken", 0, MOST_INT));
        edge(42, "-11: none such;", () -> {
            none().refused(NOTHING, "taken", 0, 0);
            busy(ring()).refused(NOTHING, "taken", 3, 0).refused(NOTHING, "taken", -1, 0).refused(NOTHING, "taken", 4, 5)
                .refused(NOTHING, "taken", LEAST_INT, 0).refused(NOTHING, "taken", MOST_INT, 0);
        });
        edge(42, "-13.", () -> {
            int[][] others = {{SET, LOG, KEYED, CAPPED, DOUBLED}, {LOG, KEYED, CAPPED, DOUBLED}, {SET, KEYED, CAPPED, DOUBLED},
                {LOG, CAPPED, DOUBLED}, {SET, KEYED, DOUBLED}, {LOG, CAPPED}};
            for (int kind = BAG; kind <= DOUBLED; kind++) {
                for (int other : others[kind]) {
                    none().call("relation", kind, 1).refused(OTHER, "taken", 0, other);
                }
            }
        });
        edge(42, "BAD: k; -11: none such; -13.", () -> busy(ring()).refused(BAD, "taken", 3, 6).refused(BAD, "taken", -1, -1)
            .refused(NOTHING, "taken", 3, 5).refused(OTHER, "taken", 0, 5));
    }
}
