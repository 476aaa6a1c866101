/** Cases of promises 23 to 31: what the answers are. */
final class AnswerEdges extends Joins {
    static void all() {
        odds();
        values();
        likeliest();
        dangling();
        without();
        key();
        strip();
        refusedStrip();
        trials();
        slate();
        lot();
    }

    private static void odds() {
        edge(23, "ODDS: part 0 above, 1 below the line", () -> pair().due(1, "odds", 0, 0, 0).due(5, "odds", 0, 0, 1)
            .due(2, "odds", 1, 3, 0).due(3, "odds", 1, 3, 1).due(3, "odds", 0, 2, 0).due(5, "odds", 0, 2, 1));
        edge(23, "in lowest terms.", () -> {
            // 6 of 30, 12 of 18, all, none, and the longest
            one(12).call("row", 0, 2, 0, 0, 6).due(2, "odds", 0, 0, 0).due(3, "odds", 0, 0, 1).due(1, "odds", 0, 1, 0).due(3, "odds", 0, 1, 1);
            one(6).due(1, "odds", 0, 0, 0).due(1, "odds", 0, 0, 1);
            one(6).call("row", 0, 1, 0, 0, 1).due(6, "odds", 0, 0, 0).due(7, "odds", 0, 0, 1);
            Run run = WeightEdges.product(WeightEdges.ONE_PART, WeightEdges.OTHER_PART, WeightEdges.LAST_PART - 1).call("row", 2, 2, 0, 0, 1);
            run.due(1, "odds", 0, 0, 0).due(1, "odds", 0, 0, 1).due(649656, "odds", 2, 0, 0).due(649657, "odds", 2, 0, 1)
                .due(1, "odds", 2, 1, 0).due(649657, "odds", 2, 1, 1);
        });
        edge(23, "NO: no such ROW", () -> busy(pair()).refused(NO, "odds", 0, 3, 0).refused(NO, "odds", 0, -1, 0)
            .refused(NO, "odds", 2, 0, 0).refused(NO, "odds", -1, 0, 0).refused(NO, "odds", MOST_INT, LEAST_INT, 0).due(1, "odds", 0, 0, 0));
        edge(23, "part,", () -> busy(pair()).refused(NO, "odds", 0, 0, -1).refused(NO, "odds", 0, 0, 2).refused(NO, "odds", 0, 0, MOST_INT)
            .due(1, "odds", 0, 0, 0).due(5, "odds", 0, 0, 1));
        edge(23, "its RELATION isn't of THE QUERY", () -> {
            busy(ring()).call("query", 3).refused(NO, "odds", 2, 0, 0).refused(NO, "odds", 2, 0, 1);
            empty().refused(NO, "odds", 0, 0, 0);
        });
        edge(23, "GREAT,", () -> busy(great()).refused(NO, "odds", 0, 0, 0).call("query", 3).due(1, "odds", 0, 0, 0));
        edge(23, "COUNT is 0.", () -> {
            busy(apart()).refused(NO, "odds", 0, 0, 0).refused(NO, "odds", 0, 0, 1);
            busy(bad()).refused(NO, "odds", 0, 0, 0).call("row", 2, 1, 3, 0, 1).due(1, "odds", 0, 0, 0);
        });
        edge(23, "ODDS of a ROW: how often ANSWERS that have it count, over COUNT.", () -> {
            ring().due(1, "odds", 2, 2, 0).due(10, "odds", 2, 2, 1).due(0, "odds", 2, 1, 0).due(1, "odds", 2, 1, 1);
            // a row of a check, one that is removed, one that does not pass
            pair().call("remove", 0, 0).due(0, "odds", 0, 0, 0).due(1, "odds", 0, 0, 1).rule("fits from or row = 2;")
                .due(0, "odds", 0, 1, 0).due(1, "odds", 0, 2, 0).due(1, "odds", 0, 2, 1);
        });
    }

    private static void values() {
        edge(24, "How often ANSWERS with VALUE v of an ATTRIBUTE count.", () -> {
            pair().due(12, "values", 0, 1).due(18, "values", 0, 2).due(0, "values", 0, 3).due(24, "values", 1, 2).due(6, "values", 1, 3)
                .due(8, "values", 2, 5).due(2, "values", 2, 6).due(20, "values", 2, 7);
            ring().due(50, "values", 0, 1).due(0, "values", 0, 2).due(45, "values", 2, 5).due(5, "values", 2, 7);
            of(33).call("row", 0, 0, 9, 0, MOST).due(MOST, "values", 0, 0).due(MOST, "values", 5, 9).due(0, "values", 0, 9).due(0, "values", 5, 0);
            apart().due(0, "values", 0, 1);
            WeightEdges.product(WeightEdges.ONE_PART, WeightEdges.OTHER_PART, WeightEdges.LAST_PART).due(MOST_LONG, "values", 2, 1);
        });
        edge(24, "NO: no such ATTRIBUTE", () -> busy(pair()).refused(NO, "values", -1, 0).refused(NO, "values", 6, 0)
            .refused(NO, "values", 32, 1).refused(NO, "values", LEAST_INT, 0).refused(NO, "values", MOST_INT, 0));
        edge(24, "VALUE, ", () -> busy(pair()).refused(NO, "values", 0, -1).refused(NO, "values", 0, 10).refused(NO, "values", 0, LEAST_INT)
            .refused(NO, "values", 0, MOST_INT).due(0, "values", 0, 0).due(0, "values", 0, 9));
        edge(24, "THE QUERY hasn't it", () -> {
            busy(ring()).refused(NO, "values", 3, 0).refused(NO, "values", 5, 1).call("query", 1).refused(NO, "values", 2, 5)
                .due(3, "values", 0, 1);
            empty().refused(NO, "values", 0, 1);
        });
        edge(24, "GREAT.", () -> busy(great()).refused(NO, "values", 0, 0).call("query", 1).due(MOST, "values", 0, 0));
    }

    private static void likeliest() {
        edge(25, "The VALUE of an ATTRIBUTE with which ANSWERS count most often", () -> {
            pair().due(2, "likeliest", 0).due(2, "likeliest", 1).due(7, "likeliest", 2);
            ring().due(1, "likeliest", 0).due(5, "likeliest", 2);
            one(1).due(1, "likeliest", 0);
        });
        edge(25, "of like ones the least", () -> of(1).call("row", 0, 9, 0, 0, 4).call("row", 0, 3, 0, 0, 4).call("row", 0, 0, 0, 0, 3)
            .due(3, "likeliest", 0).call("copies", 0, 2, 4).due(0, "likeliest", 0).call("copies", 0, 0, 5).due(9, "likeliest", 0)
            .call("row", 0, 3, 0, 0, 1).due(3, "likeliest", 0));
        edge(25, "(NONE: COUNT is 0).", () -> {
            apart().due(NONE, "likeliest", 0).due(NONE, "likeliest", 2);
            bad().due(NONE, "likeliest", 1);
            of(1).due(NONE, "likeliest", 0).call("row", 0, 0, 0, 0, 1).due(0, "likeliest", 0);
        });
        edge(25, "BAD: no such ATTRIBUTE;", () -> busy(pair()).refused(BAD, "likeliest", -1).refused(BAD, "likeliest", 6)
            .refused(BAD, "likeliest", 32).refused(BAD, "likeliest", LEAST_INT).refused(BAD, "likeliest", MOST_INT));
        edge(25, "STATE: THE QUERY hasn't it;", () -> {
            busy(ring()).refused(STATE, "likeliest", 3).refused(STATE, "likeliest", 5).call("query", 1).refused(STATE, "likeliest", 2);
            empty().refused(STATE, "likeliest", 0);
        });
        edge(25, "GREAT.", () -> busy(great()).refused(GREAT, "likeliest", 0));
        edge(25, "BAD: no such ATTRIBUTE; STATE: THE QUERY hasn't it; GREAT.", () -> {
            empty().refused(BAD, "likeliest", 6);
            busy(great()).refused(BAD, "likeliest", -1).refused(STATE, "likeliest", 3);
        });
    }

    private static void dangling() {
        edge(26, "DANGLING (bits).", () -> {
            pair().due(0, "dangling", 0).due(0, "dangling", 1).call("row", 0, 1, 9, 0, 1).due(8, "dangling", 0)
                .call("row", 1, 8, 9, 0, 1).call("row", 1, 7, 9, 0, 1).due(48, "dangling", 1);
            Run run = of(1, 1);
            for (int row = 0; row < 8; row++) {
                run.call("row", 0, row, 0, 0, 1);
            }
            run.due(255, "dangling", 0).due(0, "dangling", 1).call("row", 1, 7, 0, 0, 1).due(127, "dangling", 0);
        });
        edge(26, "BAD;", () -> busy(ring()).refused(BAD, "dangling", -1).refused(BAD, "dangling", 3).refused(BAD, "dangling", 4)
            .refused(BAD, "dangling", LEAST_INT).refused(BAD, "dangling", MOST_INT).due(2, "dangling", 2));
        edge(26, "STATE: it isn't of THE QUERY;", () -> {
            busy(ring()).call("query", 3).refused(STATE, "dangling", 2);
            empty().refused(STATE, "dangling", 0);
        });
        edge(26, "GREAT.", () -> busy(great()).refused(GREAT, "dangling", 0).refused(GREAT, "dangling", 2));
        edge(26, "BAD; STATE: it isn't of THE QUERY; GREAT.", () -> busy(great()).call("relation", BAG, 1).refused(BAD, "dangling", 4)
            .refused(STATE, "dangling", 3).refused(GREAT, "dangling", 0));
        edge(26, "DANGLING: ROWS of a RELATION of THE QUERY that PASS and are in no ANSWER.", () -> {
            ring().due(4, "dangling", 0).due(4, "dangling", 1).due(2, "dangling", 2);
            apart().due(1, "dangling", 0).due(1, "dangling", 1);
            bad().due(1, "dangling", 0).due(1, "dangling", 2);
            // one removed, one that does not pass
            ring().call("remove", 1, 2).due(0, "dangling", 1).rule("fits from - 2 or row < 1;").due(0, "dangling", 2).due(8, "dangling", 1);
            pair().call("query", 1).due(0, "dangling", 0);
        });
    }

    private static void without() {
        edge(27, "COUNT, were a ROW REMOVED (in thought; whatever KIND).", () -> {
            Run run = busy(ring());
            run.due(36, "without", 0, 0).due(14, "without", 0, 1);
            run.due(5, "without", 2, 0).due(45, "without", 2, 2).due(50, "without", 2, 1).due(50, "answers").due(7, "about", 2, 3);
            // one of a relation that is not asked, one that does not pass
            run.call("query", 3).due(30, "without", 2, 0).call("text").rule("fits from or row;").due(24, "without", 0, 0).due(18, "without", 0, 1);
            none().call("relation", LOG, 1).call("row", 0, 1, 0, 0, 5).call("query", 1).due(0, "without", 0, 0).due(5, "answers");
            // in thought: nothing changes
            busy(ring()).refused(5, "without", 2, 0);
        });
        edge(27, "NO: no such ROW", () -> busy(pair()).refused(NO, "without", 0, 3).refused(NO, "without", 0, -1).refused(NO, "without", 2, 0)
            .refused(NO, "without", -1, 0).refused(NO, "without", LEAST_INT, MOST_INT).due(10, "without", 1, 3));
        edge(27, "it isn't LIVE", () -> busy(pair()).call("remove", 0, 0).refused(NO, "without", 0, 0).call("restore", 0, 0)
            .due(24, "without", 0, 0));
        edge(27, "THE QUERY is empty", () -> empty().refused(NO, "without", 0, 0).refused(NO, "without", 2, 0));
        edge(27, "is GREAT then.", () -> {
            // great, but not then
            busy(great()).refused(0, "without", 0, 0).call("row", 0, 9, 0, 0, 1).refused(NO, "without", 0, 1)
                .due(4000000000000000000L, "without", 0, 0);
            Run run = WeightEdges.product(WeightEdges.ONE_PART, WeightEdges.OTHER_PART, WeightEdges.LAST_PART).call("row", 2, 2, 0, 0, 1);
            run.due(NO, "answers").due(MOST_LONG, "without", 2, 1).due(WeightEdges.ONE_PART * WeightEdges.OTHER_PART, "without", 2, 0);
        });
    }

    private static void key() {
        edge(28, "KEY: 8 times its RELATION and its number (what 0)", () -> {
            pair().due(11, "key", 0);
            ring().due(16, "key", 0);
            one(3).due(0, "key", 0).call("remove", 0, 0).call("row", 0, 0, 0, 0, 1).due(1, "key", 0);
        });
        edge(28, "COUNT then (1).", () -> {
            pair().due(10, "key", 1);
            ring().due(5, "key", 1);
            one(3).due(0, "key", 1);
            WeightEdges.product(WeightEdges.ONE_PART, WeightEdges.OTHER_PART, WeightEdges.LAST_PART - 1).call("row", 2, 2, 0, 0, 1)
                .call("row", 0, 2, 0, 0, 1).due(NO, "key", 1).call("remove", 0, 1).due(0, "key", 1).due(0, "key", 0);
        });
        edge(28, "NO: what", () -> busy(pair()).refused(NO, "key", -1).refused(NO, "key", 2).refused(NO, "key", LEAST_INT)
            .refused(NO, "key", MOST_INT).due(11, "key", 0));
        edge(28, "THE QUERY is empty, GREAT", () -> {
            empty().refused(NO, "key", 0).refused(NO, "key", 1);
            busy(great()).refused(NO, "key", 0).refused(NO, "key", 1);
        });
        edge(28, "no ROW of it is LIVE.", () -> {
            busy(of(1)).refused(NO, "key", 0).refused(NO, "key", 1);
            Run run = busy(of(1, 2, 4)).call("row", 0, 1, 0, 0, 1).call("row", 1, 1, 0, 0, 1).call("row", 2, 1, 0, 0, 1).call("query", 3);
            run.call("remove", 0, 0).due(8, "key", 0).due(0, "key", 1).call("remove", 1, 0).refused(NO, "key", 0).refused(NO, "key", 1);
        });
        edge(28, "KEY: of all ROWS of RELATIONS of THE QUERY that are LIVE that by whose removal (in thought) COUNT is least", () -> {
            // of a relation that is not asked none; one that does not pass counts, too
            Run run = of(1, 2).call("row", 0, 1, 0, 0, 2).call("row", 0, 1, 0, 0, 2).call("row", 1, 1, 0, 0, 3);
            run.due(8, "key", 0).call("query", 1).due(0, "key", 0).due(2, "key", 1).rule("fits row = 1;").due(1, "key", 0)
                .rule("fits 0;").due(0, "key", 0).due(0, "key", 1);
            // whatever kind
            none().call("relation", LOG, 1).call("row", 0, 1, 0, 0, 5).call("row", 0, 1, 0, 0, 6).call("query", 1).due(1, "key", 0)
                .due(5, "key", 1).due(11, "answers");
        });
        edge(28, "of like ones the first by RELATION, then number.", () -> {
            of(1, 2).call("row", 1, 0, 0, 0, 3).call("row", 0, 0, 0, 0, 3).due(0, "key", 0);
            one(1).call("row", 0, 1, 0, 0, 2).call("row", 0, 1, 0, 0, 2).due(1, "key", 0).call("copies", 0, 0, 2).due(0, "key", 0);
            apart().due(0, "key", 0).due(0, "key", 1).call("remove", 0, 0).due(8, "key", 0);
        });
    }

    private static void strip() {
        edge(29, "STRIP (r 0 or more): how many TRIALS were opened;", () -> {
            ring().lay(0, LONGS, 0, 9, 16, 1).due(4, "strip", 0, 0).due(50, "answers").due(10, "count", 2);
            ring().lay(0, INTS).due(0, "strip", 0, 0).due(0, "strip", 0, MOST_LONG);
        });
        edge(29, "by ENOUGH 100 more;", () -> {
            // the counts are 50, 36, 0
            Run run = ring().lay(0, BYTES, 0, 9, 16, 1);
            run.due(4, "strip", 0, 0).due(102, "strip", 0, 1).due(101, "strip", 0, 37);
        });
        edge(29, "by WRONG -20 less the place (from 0) of the item.", () -> {
            Run run = ring().lay(0, LONGS, 31, 9, 16, 1);
            run.due(-20, "strip", 0, 0).call("put", 0, 0, 0).call("put", 0, 3, 31).due(-23, "strip", 0, 0);
            Run twelve = of(1, 2);
            for (int row = 0; row < 6; row++) {
                twelve.call("row", 0, row, 0, 0, 1).call("row", 1, row, 0, 0, 1);
            }
            twelve.lay(0, BYTES, 0, 1, 2, 3, 4, 5, 8, 9, 10, 11, 12, 14).due(-31, "strip", 0, 0).call("put", 0, 11, 13).due(12, "strip", 0, 0)
                .due(106, "strip", 0, 1);
        });
    }

    private static void refusedStrip() {
        edge(29, "BAD: SHEET, r;", () -> busy(ring()).refused(BAD, "strip", -1, 0).refused(BAD, "strip", 4, 0).refused(BAD, "strip", LEAST_INT, 0)
            .refused(BAD, "strip", MOST_INT, 0).refused(BAD, "strip", 1, -1).refused(BAD, "strip", 1, LEAST_LONG).due(2, "strip", 1, 0));
        edge(29, "STATE: THE QUERY is empty;", () -> empty().refused(STATE, "strip", 1, 0));
        edge(29, "-11;", () -> busy(ring()).refused(NOTHING, "strip", 3, 0));
        edge(29, "BAD: it tells more than 12.", () -> busy(ring()).refused(BAD, "strip", 2, 0).call("sheet", 2, BYTES, 40)
            .refused(BAD, "strip", 2, 0).call("sheet", 2, BYTES, 12).due(-21, "strip", 2, 0));
        edge(29, "BAD: SHEET, r; STATE: THE QUERY is empty; -11; BAD: it tells more than 12.", () -> {
            empty().refused(BAD, "strip", 4, 0).refused(BAD, "strip", 3, -1).refused(STATE, "strip", 3, 0).refused(STATE, "strip", 2, 0);
            busy(ring()).refused(BAD, "strip", 3, -1).refused(BAD, "strip", 2, -1);
        });
    }

    private static void trials() {
        edge(29, "STRIP by a SHEET (whose items tell 8 times a RELATION's number and a ROW's) and r", () -> of(1, 2, 4, 8)
            .call("row", 0, 0, 0, 0, 1).call("row", 3, 0, 0, 0, 1).call("row", 3, 0, 0, 0, 1).call("query", 8).lay(0, BYTES, 25, 0)
            .due(2, "strip", 0, 1).due(25, "slate", 1).lay(0, BYTES, 25, 24).due(102, "strip", 0, 1).due(101, "strip", 0, 2));
        edge(29, "for its items, one behind another: a TRIAL is opened: that ROW is REMOVED (whatever KIND);", () -> {
            ring().lay(0, INTS, 16).due(101, "strip", 0, 6).due(1, "strip", 0, 5);
            none().call("relation", LOG, 1).call("row", 0, 1, 0, 0, 2).call("query", 1).lay(0, INTS, 0).due(101, "strip", 0, 1)
                .due(1, "about", 0, 3);
        });
        edge(29, "WRONG is thrown ahead of that, if there is no such ROW or it isn't LIVE;", () -> {
            Run run = ring().call("remove", 0, 2).lay(0, LONGS, 1, 9);
            for (long item : new long[] {3, 7, 12, 19, 24, 31, 32, -1, -8, 2, 9, LEAST_LONG, MOST_LONG, 1L << 32, (1L << 32) + 1}) {
                run.call("put", 0, 0, 9).call("put", 0, 1, item).due(-21, "strip", 0, 0).due(1, "count", 7).due(9, "slate", 0);
            }
            run.due(9, "count", 2).due(0, "told", 0, 2, 4);
            // a byte below 0
            run.lay(0, BYTES, 255).due(-20, "strip", 0, 0).due(0, "count", 7);
            // it is wrong ahead of being enough
            run.lay(0, BYTES, 31).due(-20, "strip", 0, MOST_LONG);
        });
        edge(29, "ENOUGH is thrown behind it, if COUNT is below r (not if THE QUERY is GREAT).", () -> {
            // the counts are 50, then 36, then 0
            Run run = ring().lay(0, LONGS, 0, 9);
            run.due(2, "strip", 0, 0).due(102, "strip", 0, 1).due(102, "strip", 0, 36).due(101, "strip", 0, 37).due(101, "strip", 0, 50)
                .due(101, "strip", 0, MOST_LONG);
            // great with both rows of 0, and with one; without any there are none
            Run g = great().call("row", 0, 0, 0, 0, MOST).lay(0, INTS, 1, 0);
            g.due(102, "strip", 0, 1).due(102, "strip", 0, MOST_LONG).due(2, "strip", 0, 0).lay(0, INTS, 1).due(1, "strip", 0, MOST_LONG);
            // one behind ENOUGH is not looked at
            run.lay(0, LONGS, 0, 31).due(101, "strip", 0, 37).due(-21, "strip", 0, 36);
            // no trial: never enough
            apart().lay(0, BYTES).due(0, "strip", 0, 1);
        });
        edge(29, "At last all TRIALS are shut, the last opened first: a TRIAL being shut, its ROW is LIVE again", () -> {
            ring().lay(0, LONGS, 0, 9, 16).due(3, "strip", 0, 0).due(10, "count", 2).due(50, "answers").due(7, "about", 2, 3);
            ring().lay(0, LONGS, 0, 9, 16).due(102, "strip", 0, 5).due(10, "count", 2).due(50, "answers");
            ring().lay(0, LONGS, 0, 9, 0).due(-22, "strip", 0, 0).due(10, "count", 2).due(50, "answers");
            // as it was, whatever others there are
            none().call("relation", KEYED, 1).call("row", 0, 1, 0, 0, 1).call("remove", 0, 0).call("row", 0, 1, 0, 0, 1).call("query", 1)
                .lay(0, BYTES, 1, 0).due(-21, "strip", 0, 0).due(2, "about", 0, 3);
        });
        edge(30, "and its item comes to THE SLATE (which is empty as STRIP begins).", () -> {
            Run run = ring().lay(0, LONGS, 0, 9, 16, 1).call("strip", 0, 0);
            run.due(1, "slate", 0).due(16, "slate", 1).due(9, "slate", 2).due(0, "slate", 3).due(4, "count", 7);
            run.call("strip", 0, 5).due(9, "slate", 0).due(0, "slate", 1).due(2, "count", 7);
            run.call("put", 0, 0, 31).call("strip", 0, 0).due(0, "count", 7).due(-99, "slate", 0);
            run.call("put", 0, 0, 0).call("strip", 0, 0).due(4, "count", 7).call("sheet", 0, INTS, 0).call("strip", 0, 0).due(0, "count", 7);
        });
    }

    private static void slate() {
        edge(30, "The i-th item of THE SLATE.", () -> ring().lay(0, LONGS, 10, 2).call("strip", 0, 0).due(2, "slate", 0).due(10, "slate", 1));
        edge(30, "-99: there is no such item.", () -> {
            none().due(-99, "slate", 0).due(-99, "slate", -1);
            ring().lay(0, LONGS, 10, 2).call("strip", 0, 0).due(-99, "slate", 2).due(-99, "slate", -1).due(-99, "slate", 12)
                .due(-99, "slate", LEAST_INT).due(-99, "slate", MOST_INT);
            Run run = of(1, 2);
            for (int row = 0; row < 6; row++) {
                run.call("row", 0, row, 0, 0, 1).call("row", 1, row, 0, 0, 1);
            }
            run.lay(0, BYTES, 0, 1, 2, 3, 4, 5, 8, 9, 10, 11, 12, 13).due(12, "strip", 0, 0).due(13, "slate", 0).due(0, "slate", 11)
                .due(-99, "slate", 12);
            busy(ring()).refused(-99, "slate", 2);
        });
    }

    private static void lot() {
        edge(31, "Of m SEEDS (1 .. 20)", () -> {
            pair().due(0, "lot", 5, 1, 0, 1, 0).due(1, "lot", 5, 1, 0, 1, 1).due(1, "lot", 5, 1, 0, 2, 0).due(1, "lot", 5, 1, 0, 2, 1);
            one(1).due(1, "lot", 0, 20, 0, 1, 0).due(1, "lot", 0, 20, 0, 1, 1);
            byDraws(pair(), 5, 20);
        });
        edge(31, "SEED and each 1 more (an int)", () -> {
            byDraws(pair(), MOST_INT - 3, 8);
            byDraws(pair(), MOST_INT, 2);
            byDraws(pair(), LEAST_INT, 3);
            byDraws(pair(), -2, 5);
        });
        edge(31, "those by whose DRAW there is an ANSWER with VALUE v of an ATTRIBUTE: part 0 above, 1 below the line", () -> {
            ring().due(1, "lot", 3, 9, 0, 1, 0).due(1, "lot", 3, 9, 0, 1, 1);
            // none is drawn; a value that none has, that there is not
            bad().due(0, "lot", 0, 3, 0, 1, 0).due(1, "lot", 0, 3, 0, 1, 1).due(0, "lot", 0, 3, 0, NONE, 0);
            pair().due(0, "lot", 0, 6, 0, 9, 0).due(1, "lot", 0, 6, 0, 9, 1).due(0, "lot", 0, 6, 0, 10, 0).due(0, "lot", 0, 6, 0, -1, 0);
            byDraws(bad().call("row", 2, 1, 3, 0, 1).call("copies", 2, 0, 9), 0, 12);
        });
        edge(31, "in lowest terms.", () -> {
            byDraws(pair(), 0, 4);
            byDraws(pair(), 0, 6);
            byDraws(pair(), 0, 12);
            one(1).due(1, "lot", 0, 7, 0, 1, 0).due(1, "lot", 0, 7, 0, 1, 1).due(0, "lot", 0, 7, 0, 2, 0).due(1, "lot", 0, 7, 0, 2, 1);
        });
        edge(31, "NO: m, part", () -> busy(pair()).refused(NO, "lot", 0, 0, 0, 1, 0).refused(NO, "lot", 0, 21, 0, 1, 0)
            .refused(NO, "lot", 0, -1, 0, 1, 0).refused(NO, "lot", 0, LEAST_INT, 0, 1, 0).refused(NO, "lot", 0, MOST_INT, 0, 1, 0)
            .refused(NO, "lot", 0, 1, 0, 1, -1).refused(NO, "lot", 0, 1, 0, 1, 2).refused(NO, "lot", 0, 1, 0, 1, MOST_INT));
        edge(31, "THE QUERY hasn't the ATTRIBUTE", () -> {
            busy(ring()).refused(NO, "lot", 0, 1, 3, 1, 0).refused(NO, "lot", 0, 1, 6, 1, 0).refused(NO, "lot", 0, 1, -1, 1, 0)
                .refused(NO, "lot", 0, 1, MOST_INT, 1, 0).call("query", 1).refused(NO, "lot", 0, 1, 2, 5, 0);
            empty().refused(NO, "lot", 0, 1, 0, 1, 0);
        });
        edge(31, "GREAT, SPACE is 0.", () -> {
            busy(great()).refused(NO, "lot", 0, 1, 0, 0, 0);
            busy(apart()).refused(NO, "lot", 0, 1, 0, 1, 0).refused(NO, "lot", 0, 1, 0, 1, 1);
        });
    }

    /** What a lot tells of each value of attribute a is what m draws tell. */
    private static void byDraws(Run run, int seed, int m) {
        int[] above = new int[10];
        for (int i = 0; i < m; i++) {
            long digits = run.ask("draw", seed + i, 0);
            if (digits != NONE) {
                above[(int) run.ask("at", run.ask("find", digits), 2)]++;
            }
        }
        for (int v = 0; v < 10; v++) {
            int common = 1;
            for (int by = 2; by <= m; by++) {
                common = above[v] % by == 0 && m % by == 0 ? by : common;
            }
            run.due(above[v] / common, "lot", seed, m, 0, v, 0).due(m / common, "lot", seed, m, 0, v, 1);
        }
    }
}
