/** Cases of promises 19 to 22: positions, draws and shuffles. */
final class PositionEdges extends Joins {
    static void all() {
        at();
        refusedAt();
        indexes();
        led();
        checked();
        find();
        draw();
        numbers();
        drawn();
        shuffle();
    }

    private static Run longest() {
        return WeightEdges.product(WeightEdges.ONE_PART, WeightEdges.OTHER_PART, WeightEdges.LAST_PART);
    }

    private static void positions(Run run, int... digits) {
        for (int p = 0; p < digits.length; p++) {
            run.due(digits[p] == NONE ? 0 : 1, "at", p, 0).due(digits[p], "at", p, 1);
        }
    }

    private static void at() {
        edge(19, "Whether a POSITION is GOOD (what 0; 1, 0)", () -> ring().due(1, "at", 7, 0).due(0, "at", 20, 0).due(1, "at", 8, 0)
            .due(0, "at", 9, 0));
        edge(19, "ROWS of its ANSWER as digits (1; NONE)", () -> ring().due(111, "at", 7, 1).due(NONE, "at", 20, 1).due(111, "at", 8, 1)
            .due(NONE, "at", 9, 1));
        edge(19, "VALUE of ATTRIBUTE 0 .. 5 (2 .. 7;", () -> {
            pair().due(1, "at", 5, 2).due(3, "at", 5, 3).due(5, "at", 5, 4);
            of(33, 18, 12).call("row", 0, 9, 4, 0, 1).call("row", 1, 8, 5, 0, 1).call("row", 2, 7, 6, 0, 1)
                .due(9, "at", 0, 2).due(8, "at", 0, 3).due(7, "at", 0, 4).due(6, "at", 0, 5).due(5, "at", 0, 6).due(4, "at", 0, 7);
        });
        edge(19, "NONE: THE QUERY hasn't it", () -> of(33, 18, 12).call("row", 0, 0, 0, 0, 1).call("row", 1, 0, 0, 0, 1)
            .call("row", 2, 0, 0, 0, 1).call("query", 1).due(0, "at", 0, 2).due(NONE, "at", 0, 3).due(NONE, "at", 0, 6).due(0, "at", 0, 7));
        edge(19, "it isn't GOOD).", () -> {
            for (int what = 2; what < 8; what++) {
                ring().due(NONE, "at", 20, what);
            }
        });
    }

    private static void refusedAt() {
        edge(19, "BAD: what;", () -> busy(pair()).refused(BAD, "at", 0, -1).refused(BAD, "at", 0, 8).refused(BAD, "at", 0, LEAST_INT)
            .refused(BAD, "at", 0, MOST_INT));
        edge(19, "STATE: THE QUERY is empty;", () -> empty().refused(STATE, "at", 0, 0).refused(STATE, "at", 0, 7));
        edge(19, "GREAT;", () -> busy(great()).refused(GREAT, "at", 0, 0).refused(GREAT, "at", 0, 7));
        edge(19, "BAD: no such POSITION.", () -> {
            busy(pair()).refused(BAD, "at", 30, 0).refused(BAD, "at", -1, 0).refused(BAD, "at", LEAST_LONG, 1)
                .refused(BAD, "at", MOST_LONG, 7).refused(BAD, "at", 1L << 32, 1).due(34, "at", 29, 1).due(11, "at", 0, 1);
            busy(apart()).refused(BAD, "at", 0, 0);
        });
        edge(19, "BAD: what; STATE: THE QUERY is empty; GREAT; BAD: no such POSITION.", () -> {
            empty().refused(BAD, "at", 0, 8).refused(STATE, "at", -1, 0);
            busy(great()).refused(BAD, "at", 0, 8).refused(GREAT, "at", -1, 0);
        });
        edge(19, "POSITIONS are 0 .. SPACE - 1.", () -> {
            one(1).due(1, "at", 0, 1).refused(BAD, "at", 1, 1);
            one(2000000000).due(1, "at", 1999999999, 1).refused(BAD, "at", 2000000000, 1);
            longest().due(111, "at", 0, 1).due(111, "at", MOST_LONG - 1, 1).due(1, "at", MOST_LONG - 1, 0)
                .refused(BAD, "at", MOST_LONG, 1);
            ring().due(0, "at", 269, 0).refused(BAD, "at", 270, 0);
        });
    }

    /** Checks of bounds 2 and 3, of rows that match c 1 and c 2: 12 positions, 7 of them good. */
    private static Run twoChecks() {
        return of(3, 6, 5, 5).call("row", 0, 1, 1, 0, 1).call("row", 1, 1, 1, 0, 1).call("row", 1, 1, 2, 0, 1)
            .call("row", 2, 1, 1, 0, 1).call("row", 2, 1, 1, 0, 1).call("row", 2, 1, 2, 0, 1)
            .call("row", 3, 1, 1, 0, 1).call("row", 3, 1, 1, 0, 2).call("row", 3, 1, 2, 0, 1);
    }

    private static void indexes() {
        edge(19, "A POSITION p: of CHECKS, the last first, its INDEX is p modulo its BOUND, and p goes on as p over its BOUND (cut).", () ->
            positions(twoChecks().due(2, "bound", 2).due(3, "bound", 3).due(12, "space").due(7, "answers"),
                1111, 1112, 1112, 1121, 1122, 1122, 1233, NONE, NONE, NONE, NONE, NONE));
        edge(19, "p is then led into the ROOT", () -> positions(one(2).call("row", 0, 3, 0, 0, 1), 1, 1, 2));
    }

    private static void led() {
        edge(19, "LED into a RELATION (all ROWS of it that MATCH the PARENT's ROW; of ROOT all)", () -> {
            // of relation 0 row 1 does not match the root's row 0, and is passed over
            positions(of(1, 3).call("row", 0, 1, 0, 0, 1).call("row", 0, 2, 0, 0, 1).call("row", 0, 1, 0, 0, 1)
                .call("row", 1, 1, 1, 0, 1).call("row", 1, 2, 1, 0, 1), 11, 31, 22);
        });
        edge(19, "that ROW (by numbers) at which the SUM of WEIGHTS is above p first;", () -> {
            positions(pair(), 11, 31, 31, 31, 22, 22, 22, 22, 23, 23, 14);
            pair().due(34, "at", 29, 1);
            // rows whose weight is 0, ahead, between and behind
            Run run = of(3, 6).call("row", 0, 1, 1, 0, 1).call("row", 0, 9, 9, 0, 1).call("row", 0, 2, 1, 0, 2)
                .call("row", 1, 8, 1, 0, 7).call("row", 1, 1, 1, 0, 1).call("row", 1, 8, 2, 0, 7).call("row", 1, 1, 2, 0, 1)
                .call("row", 1, 8, 3, 0, 7);
            positions(run.due(6, "space"), 12, 32, 32, 14, 34, 34);
            positions(run.call("remove", 1, 1).call("remove", 0, 0), 34, 34);
        });
        edge(19, "p is less by the SUM ahead of it;", () -> positions(of(1, 2).call("row", 0, 1, 0, 0, 1).call("row", 0, 1, 0, 0, 2)
            .call("row", 1, 1, 0, 0, 1).call("row", 1, 1, 0, 0, 1), 11, 21, 21, 12, 22, 22));
        edge(19, "of CHILDREN, the last first, p modulo its SUM is what is LED into it, and p goes on as p over that SUM (cut).", () -> {
            // of the root's row, which counts twice, the sums are 3 (relation 0) and 5 (relation 1)
            Run run = of(1, 2, 3).call("row", 0, 1, 0, 0, 2).call("row", 0, 1, 0, 0, 1).call("row", 1, 1, 0, 0, 1)
                .call("row", 1, 1, 0, 0, 4).call("row", 2, 1, 1, 0, 2);
            positions(run.due(30, "space"), 111, 121, 121, 121, 121, 111, 121, 121, 121, 121, 211, 221, 221, 221, 221,
                111, 121, 121, 121, 121, 111, 121, 121, 121, 121, 211, 221, 221, 221, 221);
            // a child of a child
            Run chain = of(3, 6, 12).call("row", 0, 1, 1, 0, 1).call("row", 0, 2, 1, 0, 1).call("row", 1, 1, 1, 0, 1)
                .call("row", 1, 1, 1, 0, 1).call("row", 2, 1, 1, 0, 1);
            positions(chain, 111, 211, 121, 221);
        });
    }

    private static void checked() {
        edge(19, "Then of CHECKS, by numbers: of its ROWS that PASS and MATCH all that stand till then, "
            + "that at which the SUM of WORTHS is above its INDEX first;", () -> {
                Run run = bad().call("row", 2, 1, 3, 0, 2).call("row", 2, 1, 3, 0, 3);
                positions(run.due(5, "space"), 112, 112, 113, 113, 113);
                positions(run.call("remove", 2, 1).due(3, "space"), 113, 113, 113);
                positions(run.call("restore", 2, 1).rule("fits row = 0 or row = 1;"), 112, 112);
                // the second check must match the first one's d
                Run two = of(3, 6, 13, 13).call("row", 0, 1, 1, 0, 1).call("row", 1, 1, 1, 0, 1).call("row", 2, 1, 1, 5, 1)
                    .call("row", 3, 1, 1, 6, 1).call("row", 3, 1, 1, 5, 2);
                positions(two.due(2, "space"), 1112, 1112);
            });
        edge(19, "if there is none, the POSITION isn't GOOD.", () -> {
            positions(bad(), NONE);
            positions(bad().call("row", 2, 1, 3, 0, 1).call("copies", 2, 0, 3), 112, NONE, NONE);
            // the first check finds a row, the second none
            Run two = of(3, 6, 5, 5).call("row", 0, 1, 1, 0, 1).call("row", 1, 1, 1, 0, 1).call("row", 2, 1, 1, 0, 1)
                .call("row", 3, 1, 1, 0, 1).call("row", 3, 2, 2, 0, 2);
            positions(two, 1111, NONE);
        });
        edge(19, "A GOOD one has an ANSWER: these ROWS.", () -> {
            Run run = ring();
            int good = 0;
            for (int p = 0; p < 270; p++) {
                good += run.ask("at", p, 1) != NONE ? 1 : 0;
            }
            due("good ones of 270", good, 50);
        });
    }

    private static void find() {
        edge(20, "The least POSITION whose ANSWER has these ROWS (as digits).", () -> {
            pair().due(0, "find", 11).due(1, "find", 31).due(4, "find", 22).due(8, "find", 23).due(10, "find", 14).due(11, "find", 34);
            ring().due(0, "find", 111).due(36, "find", 221).due(90, "find", 143);
            twoChecks().due(0, "find", 1111).due(1, "find", 1112).due(3, "find", 1121).due(4, "find", 1122).due(6, "find", 1233);
            one(1).due(0, "find", 1);
            longest().due(0, "find", 111);
            Run last = longest().call("copies", 2, 0, WeightEdges.LAST_PART - 1).call("row", 2, 2, 0, 0, 1);
            last.due(MOST_LONG - WeightEdges.ONE_PART * WeightEdges.OTHER_PART, "find", 112);
            Run eight = of(1);
            for (int row = 0; row < 8; row++) {
                eight.call("row", 0, 1, 0, 0, 2);
            }
            eight.due(14, "find", 8).due(0, "find", 1);
            findLed();
            findChecked();
        });
        edge(20, "NO: THE QUERY is empty, GREAT", () -> {
            empty().refused(NO, "find", 0).refused(NO, "find", 111);
            busy(great()).refused(NO, "find", 111);
        });
        edge(20, "there is no such ANSWER.", () -> {
            Run run = pair();
            for (int digits : new int[] {0, 1, 4, 10, 12, 13, 15, 19, 20, 21, 24, 41, 91, 110, 111, 1011, 100011, -11, -1, MOST_INT, LEAST_INT}) {
                run.due(NO, "find", digits);
            }
            busy(pair()).refused(NO, "find", 12).refused(NO, "find", 44);
            pair().call("remove", 0, 0).due(NO, "find", 11).call("restore", 0, 0).due(0, "find", 11).rule("fits from or row;")
                .due(NO, "find", 11).due(0, "find", 31);
            bad().due(NO, "find", 111);
            ring().due(NO, "find", 112).due(NO, "find", 11).due(NO, "find", 231);
            apart().due(NO, "find", 11);
        });
    }

    /** The least position by what is led into children, and into the root's second row. */
    private static void findLed() {
        of(1, 2, 3).call("row", 0, 1, 0, 0, 2).call("row", 0, 1, 0, 0, 1).call("row", 1, 1, 0, 0, 1).call("row", 1, 1, 0, 0, 4)
            .call("row", 2, 1, 1, 0, 2).due(0, "find", 111).due(1, "find", 121).due(10, "find", 211).due(11, "find", 221);
        Run run = of(1, 2, 3).call("row", 0, 5, 0, 0, 1).call("row", 0, 2, 0, 0, 4).call("row", 0, 2, 0, 0, 5)
            .call("row", 1, 1, 0, 0, 2).call("row", 1, 3, 0, 0, 3).call("row", 1, 3, 0, 0, 1)
            .call("row", 2, 5, 1, 0, 2).call("row", 2, 2, 3, 0, 1);
        // 4 are ahead of the root's row, then 4 times 4, then 3
        run.due(23, "find", 332).due(332, "at", 23, 1).due(322, "at", 22, 1).due(4, "find", 222);
        // a child of a child
        of(3, 6, 12).call("row", 0, 1, 1, 0, 1).call("row", 0, 2, 1, 0, 3).call("row", 1, 1, 1, 0, 1).call("row", 1, 1, 1, 0, 2)
            .call("row", 2, 9, 1, 0, 7).call("row", 2, 1, 1, 0, 5).due(1, "find", 212).due(4, "find", 122).due(5, "find", 222);
    }

    /** Rows of a check that do not match what stands are not ahead. */
    private static void findChecked() {
        of(3, 6, 5).call("row", 0, 4, 2, 0, 1).call("row", 0, 2, 2, 0, 1).call("row", 1, 1, 3, 0, 1).call("row", 1, 2, 3, 0, 2)
            .call("row", 2, 4, 3, 0, 7).call("row", 2, 2, 3, 0, 5).due(0, "find", 121).due(7, "find", 222).due(222, "at", 7, 1);
        // nor those that do not match a check ahead
        of(3, 6, 13, 13).call("row", 0, 1, 1, 0, 1).call("row", 1, 1, 1, 0, 1).call("row", 2, 1, 1, 5, 1)
            .call("row", 3, 1, 1, 6, 1).call("row", 3, 1, 1, 5, 2).due(0, "find", 1112).due(NO, "find", 1111);
        bad().call("row", 2, 1, 3, 0, 2).call("row", 2, 1, 3, 0, 3).due(0, "find", 112).due(2, "find", 113).due(NO, "find", 111);
        of(3, 6, 5).call("row", 0, 2, 2, 0, 1).call("row", 1, 2, 4, 0, 1).call("row", 2, 2, 4, 0, 2).call("row", 2, 2, 4, 0, 3)
            .due(0, "find", 111).due(2, "find", 112);
        // of d, or a, which no other has, a row ahead may have another value
        of(3, 6, 13).call("row", 0, 1, 1, 0, 1).call("row", 1, 1, 1, 0, 1).call("row", 2, 1, 1, 7, 2).call("row", 2, 1, 1, 5, 3)
            .due(0, "find", 111).due(2, "find", 112).due(111, "at", 1, 1).due(112, "at", 2, 1).due(5, "at", 4, 5);
        of(6, 12, 11).call("row", 0, 1, 1, 0, 1).call("row", 1, 1, 1, 0, 1).call("row", 2, 7, 1, 1, 2).call("row", 2, 4, 1, 1, 3)
            .due(0, "find", 111).due(2, "find", 112).due(111, "at", 1, 1).due(112, "at", 2, 1).due(4, "at", 4, 2);
    }

    /** SPACE is 9, and the only good position is 0. */
    private static Run oneOfNine() {
        return bad().call("copies", 2, 0, 9).call("row", 2, 1, 3, 0, 1);
    }

    private static void draw() {
        edge(21, "DRAW by a SEED: ROWS as digits (what 0; NONE)", () -> {
            pair().due(34, "draw", 5, 0);
            oneOfNine().due(112, "draw", 7, 0).due(112, "draw", 4, 0).due(NONE, "draw", 2, 0);
            for (int seed : new int[] {0, -1, MOST_INT, LEAST_INT}) {
                pair().due(pair().ask("at", new SeedBits(seed).below(30), 1), "draw", seed, 0);
            }
        });
        edge(21, "how many POSITIONS were drawn (1).", () -> oneOfNine().due(1, "draw", 7, 1).due(2, "draw", 22, 1).due(19, "draw", 287, 1)
            .due(20, "draw", 4, 1).due(20, "draw", 2, 1));
        edge(21, "BAD;", () -> busy(pair()).refused(BAD, "draw", 0, 2).refused(BAD, "draw", 0, -1).refused(BAD, "draw", 0, LEAST_INT)
            .refused(BAD, "draw", 0, MOST_INT));
        edge(21, "STATE: THE QUERY is empty;", () -> empty().refused(STATE, "draw", 0, 0).refused(STATE, "draw", 0, 1));
        edge(21, "GREAT;", () -> busy(great()).refused(GREAT, "draw", 0, 0).refused(GREAT, "draw", 0, 1));
        edge(21, "STATE: SPACE is 0.", () -> {
            busy(apart()).refused(STATE, "draw", 0, 0).refused(STATE, "draw", 0, 1);
            busy(of(1)).refused(STATE, "draw", 0, 0).call("row", 0, 0, 0, 0, 1).due(1, "draw", 0, 0);
        });
        edge(21, "BAD; STATE: THE QUERY is empty; GREAT; STATE: SPACE is 0.", () -> {
            empty().refused(BAD, "draw", 0, 2);
            busy(great()).refused(BAD, "draw", 0, 2);
            busy(apart()).refused(BAD, "draw", 0, 2);
        });
        edge(21, "DRAW: NUMBERS below SPACE, one behind another, till one is a GOOD POSITION (20 at most): its ANSWER;", () -> {
            // by 4 the 20th is good, by 2 none of 20
            oneOfNine().due(20, "draw", 4, 1).due(112, "draw", 4, 0).due(20, "draw", 2, 1).due(NONE, "draw", 2, 0);
            bad().due(20, "draw", 4, 1).due(NONE, "draw", 4, 0);
        });
        edge(33, "NONE (also if SPACE is 0).", () -> apart().call("film", 0, 1).due(NONE, "item", 0, 0).refused(STATE, "draw", 0, 0));
    }

    /** The first number below n by a seed: what stands at place 0 of a shuffle. */
    private static void number(Run run, long n, int seed, long due) {
        run.due(n, "space").due(due, "shuffle", seed, 1, 0);
    }

    private static void numbers() {
        edge(21, "DRAWN by a SEED: bits come one behind another: z is z * 1103515245 + 12345 (an int; SEED at first), "
            + "the bit is the lowest one of z >>> 16.", () -> {
                // 16 bits of a number below 65536, told by hand for these seeds
                number(one(65536), 65536, 0, 0b0001011100101011);
                number(one(65536), 65536, 1, 0b0011110100110011);
                number(one(65536), 65536, -1, 0b1100100100111010);
                number(one(65536), 65536, MOST_INT, 0b1100100100111010);
                number(one(65536), 65536, LEAST_INT, 0b0001011100101011);
                number(one(65536), 65536, 123456789, 0b0101111100011011);
                oneOfNine().due(112, "draw", 4, 0);
            });
        edge(21, "A NUMBER below n: of so many bits as n - 1 has (0: none), the first the highest;", () -> {
            // below 1 no bit is drawn: of a shuffle of 2 below 2 the second needs none
            number(one(1), 1, 5, 0);
            one(1).due(1, "draw", 5, 0).due(1, "draw", 5, 1);
            // 2: one bit; 3, 4: two; 5, 8: three. By 5 the bits are 1101100100101111
            number(one(2), 2, 5, 1);
            number(one(3), 3, 5, 0b01);
            number(one(4), 4, 5, 0b11);
            number(one(5), 5, 5, 0b010);
            number(one(7), 7, 5, 0b110);
            number(one(8), 8, 5, 0b110);
            number(one(9), 9, 5, 0b0010);
            number(one(16), 16, 5, 0b1101);
            number(one(32), 32, 5, 0b11011);
            for (int seed : new int[] {0, 1, 77, -77, MOST_INT}) {
                number(longest(), MOST_LONG, seed, new SeedBits(seed).below(MOST_LONG));
                number(WeightEdges.product(1 << 21, 1 << 21, 1 << 20), 1L << 62, seed, new SeedBits(seed).below(1L << 62));
                number(one(2000000000), 2000000000, seed, new SeedBits(seed).below(2000000000));
                number(one((1 << 30) + 1), (1 << 30) + 1, seed, new SeedBits(seed).below((1 << 30) + 1));
            }
        });
    }

    private static void drawn() {
        edge(21, "if it is n or more, it is drawn anew (30 times at most in all; the last one, if n or more still, is told modulo n).", () -> {
            // by 5 the bits are 11 01 ..: 3 is none below 3, 1 is
            number(one(3), 3, 5, 1);
            // the most that come too high one behind another: 21, of 16 and 22 bits
            number(one(32769), 32769, 82980, 5520);
            number(one(2097153), 2097153, 34774, 249708);
            // 13 and 9 are none below 9, 2 is
            number(one(9), 9, 5, 2);
            due("numbers too high", tooHigh(82980, 32769), 21);
            due("numbers too high", tooHigh(34774, 2097153), 21);
        });
        edge(21, "(30 times at most in all; the last one, if n or more still, is told modulo n)", () ->
            // the bits repeat after 2 ^ 17, and in them no 22 numbers one behind another are too high: no call leads to the 30th
            due("numbers too high one behind another, at most", mostTooHigh(), 21));
    }

    private static int tooHigh(int seed, long n) {
        SeedBits bits = new SeedBits(seed);
        bits.below(n);
        return bits.anew;
    }

    /** Of all numbers of b bits, most are too high for 2 ^ (b - 1) + 1: those whose first bit and one more are 1. */
    private static int mostTooHigh() {
        int period = 1 << 17;
        SeedBits from = new SeedBits(0);
        int[] bits = new int[period];
        int[] next = new int[2 * period];
        for (int i = 0; i < period; i++) {
            bits[i] = from.bit();
        }
        next[2 * period - 1] = period;
        for (int i = 2 * period - 2; i >= 0; i--) {
            next[i] = bits[(i + 1) % period] == 1 ? 1 : next[i + 1] + 1;
        }
        int most = 0;
        for (int b = 2; b < 64; b++) {
            for (int start = 0; start < period; start++) {
                int run = 0;
                int at = start;
                while (run < 40 && bits[at] == 1 && next[at] < b) {
                    run++;
                    at = (at + b) % period;
                }
                most = Math.max(most, run);
            }
        }
        return most;
    }

    /** All places laid out and changed one behind another. */
    private static void shuffled(Run run, int space, int seed, int n) {
        long[] places = new long[space];
        for (int i = 0; i < space; i++) {
            places[i] = i;
        }
        SeedBits bits = new SeedBits(seed);
        for (int i = 0; i < n; i++) {
            int other = i + (int) bits.below(space - i);
            long stood = places[i];
            places[i] = places[other];
            places[other] = stood;
        }
        for (int i = 0; i < n; i++) {
            run.due(places[i], "shuffle", seed, n, i);
        }
    }

    private static void shuffle() {
        edge(22, "SHUFFLE of n (1 .. 8) by a SEED: what stands at place i (0 .. n - 1).", () -> {
            pair().due(14, "shuffle", 9, 4, 0).due(12, "shuffle", 9, 4, 1).due(18, "shuffle", 9, 4, 2).due(4, "shuffle", 9, 4, 3)
                .due(14, "shuffle", 9, 1, 0).due(4, "shuffle", 9, 8, 3);
            for (int n = 1; n <= 8; n++) {
                shuffled(pair(), 30, n - 4, n);
            }
        });
        edge(22, "NO: n, i", () -> busy(pair()).refused(NO, "shuffle", 9, 0, 0).refused(NO, "shuffle", 9, 9, 0)
            .refused(NO, "shuffle", 9, -1, -2).refused(NO, "shuffle", 9, LEAST_INT, 0).refused(NO, "shuffle", 9, MOST_INT, 0)
            .refused(NO, "shuffle", 9, 4, 4).refused(NO, "shuffle", 9, 4, -1).refused(NO, "shuffle", 9, 8, 8)
            .refused(NO, "shuffle", 9, 8, LEAST_INT).refused(NO, "shuffle", 9, 8, MOST_INT).due(14, "shuffle", 9, 8, 0));
        edge(22, "THE QUERY is empty, GREAT", () -> {
            empty().refused(NO, "shuffle", 9, 1, 0);
            busy(great()).refused(NO, "shuffle", 9, 1, 0);
        });
        edge(22, "SPACE is less than n.", () -> {
            busy(apart()).refused(NO, "shuffle", 9, 1, 0);
            for (int n = 1; n < 8; n++) {
                one(n).refused(NO, "shuffle", 9, n + 1, 0);
                shuffled(one(n), n, 9, n);
            }
        });
        edge(22, "SHUFFLE of n: each POSITION stands at its own place; for i from 0 to n - 1: what stands at i and what stands at "
            + "i + (a NUMBER below SPACE - i) change places; the i-th is what stands at i then.", () -> {
                for (int seed = -20; seed < 20; seed++) {
                    shuffled(one(8), 8, seed, 8);
                    shuffled(one(9), 9, seed, 8);
                    shuffled(one(3), 3, seed, 3);
                }
                SeedBits bits = new SeedBits(77);
                long first = bits.below(MOST_LONG);
                longest().due(first, "shuffle", 77, 2, 0).due(1 + bits.below(MOST_LONG - 1), "shuffle", 77, 2, 1);
            });
    }
}
