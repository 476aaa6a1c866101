/** Cases of promises 12 to 14: the tape, texts and their faults, the rule. */
final class TextEdges extends Joins {
    static void all() {
        feed();
        text();
        tokens();
        numbers();
        grammar();
        names();
        values();
        faults();
        open();
        force();
    }

    private static String blanks(int n) {
        return " ".repeat(n);
    }

    /** The text has no fault. */
    private static void fits(String text) {
        none().feed(text).due(1, "text");
    }

    /** Its fault is at this place. */
    private static void fault(String text, int place) {
        none().feed(text).due(-100 - place, "text").due(0, "count", 4).due(1, "count", 3);
    }

    private static void feed() {
        edge(12, "A byte (0 .. 255) comes behind THE TAPE: how many it has.", () -> busy(pair()).due(9, "feed", 0).due(10, "feed", 255)
            .due(11, "feed", 128).due(11, "count", 4));
        edge(12, "BAD;", () -> busy(pair()).refused(BAD, "feed", -1).refused(BAD, "feed", 256).refused(BAD, "feed", LEAST_INT)
            .refused(BAD, "feed", MOST_INT));
        edge(12, "FULL.", () -> none().feed(blanks(159)).due(160, "feed", 32).refused(FULL, "feed", 32).refused(FULL, "feed", 0)
            .due(-260, "text").due(1, "feed", 32));
        edge(12, "BAD; FULL.", () -> none().feed(blanks(160)).refused(BAD, "feed", 256).refused(BAD, "feed", -1).refused(FULL, "feed", 255));
        edge(13, "A TEXT is read from THE TAPE (160 bytes at most).", () -> {
            none().feed("fits 1" + blanks(153) + ";").due(160, "count", 4).due(1, "text");
            none().feed("fits 1" + blanks(154)).refused(FULL, "feed", ';').due(-260, "text");
            // the longest sums, one behind another: 1 and 0
            String ones = "+1".repeat(75);
            none().feed("fits 0" + ones + "-75;").due(160, "count", 4).due(1, "text");
            Run run = none().call("relation", BAG, 1).call("row", 0, 0, 0, 0, 76);
            run.rule("fits 1" + ones + "-75;").due(1, "told", 0, 0, 5).rule("fits 0" + ones + "-75;").due(0, "told", 0, 0, 5)
                .call("force", 1).due(1, "told", 0, 0, 5);
        });
    }

    private static void text() {
        edge(13, "THE TAPE, which is empty then", () -> busy(pair()).call("text").feed("fits 1;").due(3, "text").due(0, "count", 4)
            .due(-100, "text").due(4, "count", 3));
        edge(13, "(by a FAULT, too)", () -> busy(pair()).due(8, "count", 4).due(-108, "text").due(0, "count", 4).due(3, "count", 3));
        edge(13, "is a TEXT: its number", () -> none().feed("fits 1;").due(1, "text").feed("fits").due(-104, "text").feed("fits 2;").due(2, "text"));
        edge(13, "-100 less the place of its FAULT.", () -> {
            fault("", 0);
            fault("f", 0);
            fault("fits 1;" + blanks(152) + "1", 159);
            fault(blanks(160), 160);
        });
        edge(13, "FULL (ahead of all): no TEXT more has room (THE TAPE stays).", () -> {
            Run run = busy(pair());
            run.call("text");
            for (int text = 3; text < 6; text++) {
                run.feed("fits 1;").due(text, "text");
            }
            run.feed("fits 1;").refused(FULL, "text").due(7, "count", 4).feed("?").refused(FULL, "text").due(8, "count", 4);
            none().feed("fits 1;").call("text").text("fits 1;").text("fits 1;").text("fits 1;").text("fits 1;").refused(FULL, "text");
        });
        edge(13, "There are 6 TEXTS at most, TEXT 0 with them.", () -> {
            Run run = none().due(1, "count", 3);
            for (int text = 1; text < 6; text++) {
                run.feed("fits " + text + ";").due(text, "text");
            }
            run.due(6, "count", 3).feed("fits 6;").refused(FULL, "text").due(0, "force", 5);
        });
    }

    private static void tokens() {
        edge(13, "TOKENS, each as long as can be: WORDS (a .. z)", () -> {
            fault("fitsa;", 0);
            fault("fits ab;", 5);
            fault("fits notb;", 5);
            fault("fits aand b;", 5);
            fault("fits a andb;", 7);
            fault("fits az;", 5);
            fault("fits za;", 5);
            fault("fits A;", 5);
            fault("Fits a;", 0);
            fault("fits `;", 5);
            fault("fits {;", 5);
            fault("fits a_b;", 6);
            fits("fits 1and 2or 3;");
            fits("fits not(a)and(b);");
        });
        edge(13, "SIGNS ( ) ; + - * % < = ;", () -> {
            fits("fits(a)+b-c*d%e<f;");
            fits("fits a=b;");
            for (char c : "!\"#$&',./:>?@[\\]^_`{|}~".toCharArray()) {
                fault("fits " + c + ";", 5);
                fault("fits a " + c + " b;", 7);
            }
            fault("fits a<=b;", 7);
            fault("fits a==b;", 7);
        });
        edge(13, "blanks (32, 10) may stand between.", () -> {
            fits("fits\n1\n;");
            fits("fits\n \n-\n 1 \n + \n 1 ;");
            fits("fits a  and\n\nnot\n b ;");
            fits(" fits 1;\n");
            fault("fits 1\t;", 6);
            fault("fits\r1;", 4);
            fault("fits 1\u0000;", 6);
            fault("fits 1\u000b;", 6);
            fault("fits\u00a01;", 4);
            fault("fits 1 2;", 7);
            fault("fits a o r b;", 7);
            fault("fits r ow;", 5);
        });
    }

    private static void numbers() {
        edge(13, "NUMBERS (digits, as many as stand there, 0 ahead of others, too;", () -> {
            fits("fits 0;");
            holds("fits 0000 = 0;");
            holds("fits 0012 = 12;");
            holds("fits 09 = 9;");
            holds("fits 9999 = 999 * 10 + 9;");
            fault("fits 1 0;", 7);
            fits("fits 1or 1;");
        });
        edge(13, "more than 4 are too long)", () -> {
            fits("fits 9999;");
            fault("fits 10000;", 5);
            fits("fits 0000;");
            fault("fits 00000;", 5);
            fault("fits 00001;", 5);
            fault("fits 1 + 99999999999999999999;", 9);
            fault("fits 4294967296;", 5);
        });
    }

    /** Of a row of relation 1 (b d f) with values 3, 0, 7, number 1, 2000000000 copies the text tells what is not 0. */
    private static void holds(String text) {
        told(text, 1);
    }

    private static void told(String text, int is) {
        none().call("relation", BAG, 1).call("relation", BAG, 42).call("row", 1, 0, 0, 0, 1).call("row", 1, 3, 0, 7, 2000000000)
            .rule(text).due(1, "count", 5).due(is, "told", 1, 1, 5);
    }

    private static void grammar() {
        edge(13, "TEXT: fits E ;", () -> {
            fits("fits 1;");
            fault("", 0);
            fault("1;", 0);
            fault(";", 0);
            fault("not 1;", 0);
            fault("fits ;", 5);
            fault("fits fits 1;", 5);
            fault("fits 1", 6);
            fault("fits 1 ", 7);
            fault("fits 1;;", 7);
            fault("fits 1; fits 1;", 8);
            fault("fits 1;1", 7);
        });
        edge(13, "E: AND { or AND }.", () -> {
            fits("fits a or b or c;");
            fault("fits or a;", 5);
            fault("fits a or;", 9);
            fault("fits a or or b;", 10);
            holds("fits 1 or 0 and 0;");
            holds("fits 0 and 0 or 1;");
            told("fits (1 or 0) and 0;", 0);
        });
        edge(13, "AND: NOT { and NOT }.", () -> {
            fits("fits a and b and c;");
            fault("fits and a;", 5);
            fault("fits a and;", 10);
            fault("fits a and or b;", 11);
            fits("fits not a and not b;");
        });
        edge(13, "NOT: not NOT, or SUM, perhaps < or = and a SUM.", () -> {
            fits("fits not not a;");
            fits("fits not a < b;");
            fault("fits a not b;", 7);
            fault("fits not;", 8);
            fault("fits a < not b;", 9);
            fault("fits a < b < c;", 11);
            fault("fits a < b = c;", 11);
            fault("fits a = b < c;", 11);
            fault("fits a = b = c;", 11);
            fault("fits < a;", 5);
            fault("fits a <;", 8);
            fits("fits (a < b) < c;");
            fits("fits a < b and b = c or c < d;");
            told("fits not 0 = 0;", 0);
            holds("fits not 1 = 0;");
        });
        edge(13, "SUM: TERM { + or - TERM }.", () -> {
            fits("fits a + b - c;");
            fault("fits + a;", 5);
            fault("fits a +;", 8);
            fault("fits a + + b;", 9);
            fits("fits a - - b;");
            fault("fits a + not b;", 9);
            holds("fits 9 - 3 - 2 = 4;");
            holds("fits 9 - 3 + 2 = 8;");
        });
        edge(13, "TERM: ONE { * or % ONE }.", () -> {
            fits("fits a * b % c;");
            fault("fits * a;", 5);
            fault("fits a *;", 8);
            fault("fits a * * b;", 9);
            fits("fits a * - b;");
            fault("fits a % not b;", 9);
            holds("fits 7 % 4 * 2 = 6;");
            holds("fits 2 * 7 % 4 = 2;");
            holds("fits 1 + 2 * 3 = 7;");
        });
        edge(13, "ONE: a NUMBER, a NAME, - ONE, ( E ).", () -> {
            fits("fits 1;");
            fits("fits row;");
            fits("fits -a;");
            fits("fits - - a;");
            fits("fits (a or b);");
            fits("fits (not a);");
            fault("fits ();", 6);
            fault("fits (a;", 7);
            fault("fits (a", 7);
            fault("fits a);", 6);
            fault("fits (a b);", 8);
            fault("fits - not a;", 7);
            fault("fits -;", 6);
            fault("fits a (b);", 7);
            holds("fits (1 + 2) * 3 = 9;");
            holds("fits -2 * 3 = -6;");
            holds("fits -2 + 3 = 1;");
        });
    }

    /** A word with one letter more, one less, and each letter by another one. */
    private static String[] others(String word) {
        String[] others = new String[word.length() + 3];
        for (int i = 0; i < word.length(); i++) {
            others[i] = word.substring(0, i) + "z" + word.substring(i + 1);
        }
        others[word.length()] = word + "s";
        others[word.length() + 1] = "s" + word;
        others[word.length() + 2] = word.substring(0, word.length() - 1) + "z".repeat(word.length() == 2 ? 1 : 0);
        return others;
    }

    private static void names() {
        edge(13, "NAMES are a b c d e f row from copies; fits, or, and, not are KEYS.", () -> {
            for (String name : "a b c d e f row from copies".split(" ")) {
                fits("fits " + name + ";");
                fault("fits 1 " + name + ";", 7);
            }
            fault("fits g;", 5);
            fault("fits z;", 5);
            for (String key : "fits or and".split(" ")) {
                fault("fits " + key + ";", 5);
                fault("fits a + " + key + ";", 9);
            }
            for (String key : "or and not a row".split(" ")) {
                fault(key + " 1;", 0);
            }
            fault("fits a fits b;", 7);
            for (String word : "row from copies".split(" ")) {
                for (String other : others(word)) {
                    fault("fits " + other + ";", 5);
                }
            }
            for (String other : others("fits")) {
                fault(other + " 1;", 0);
            }
            for (String other : others("not")) {
                fault("fits " + other + " 1;", 5);
            }
            for (String key : "or and".split(" ")) {
                for (String other : others(key)) {
                    fault("fits 1 " + other + " 1;", 7);
                }
            }
        });
        edge(13, "Of a ROW: a .. f: its VALUE (-1, if its RELATION hasn't the ATTRIBUTE)", () -> {
            holds("fits b = 3 and d = 0 and f = 7;");
            holds("fits a = -1 and c = -1 and e = -1;");
            told("fits a + 1;", 0);
            none().call("relation", BAG, 7).call("relation", BAG, 56).call("row", 0, 0, 9, 0, 1).call("row", 1, 9, 0, 9, 1)
                .rule("fits a = 0 and b = 9 and c = 0 and d = -1 and e = -1 and f = -1 or d = 9 and e = 0 and f = 9;")
                .due(1, "told", 0, 0, 5).due(1, "told", 1, 0, 5);
        });
        edge(13, "row: its number;", () -> {
            Run run = of(1);
            for (int row = 0; row < 8; row++) {
                run.call("row", 0, 0, 0, 0, 1);
            }
            run.rule("fits row;").due(254, "about", 0, 6).rule("fits row = 7;").due(128, "about", 0, 6);
        });
        edge(13, "from: its RELATION's;", () -> of(1, 1, 1, 1).call("row", 0, 0, 0, 0, 1).call("row", 3, 0, 0, 0, 1).rule("fits from;")
            .due(0, "about", 0, 6).due(1, "about", 3, 6).rule("fits from = 3;").due(0, "about", 0, 6).due(1, "about", 3, 6));
        edge(13, "copies: COPIES.", () -> {
            holds("fits copies = 2000 * 1000 * 1000;");
            none().call("relation", CAPPED, 1).call("row", 0, 0, 0, 0, 50).rule("fits copies = 50;").due(1, "told", 0, 0, 5);
            none().call("relation", DOUBLED, 1).call("row", 0, 0, 0, 0, 50).rule("fits copies = 50;").due(1, "told", 0, 0, 5)
                .call("copies", 0, 0, 51).due(0, "told", 0, 0, 5);
        });
    }

    private static void values() {
        edge(13, "An E is an int (32 bits, wrapping)", () -> {
            // 2147483647 and 1 more; -2147483648 and 1 less
            holds("fits 2147 * 1000 * 1000 + 4836 * 100 + 47 + 1 = -2147 * 1000 * 1000 - 4836 * 100 - 48;");
            holds("fits 2147 * 1000 * 1000 + 4836 * 100 + 47 + 1 < 0;");
            told("fits 2147 * 1000 * 1000 + 4836 * 100 + 47 < 0;", 0);
            holds("fits -2147 * 1000 * 1000 - 4836 * 100 - 49 = 2147 * 1000 * 1000 + 4836 * 100 + 47;");
            holds("fits -(2147 * 1000 * 1000 + 4836 * 100 + 48) = 2147 * 1000 * 1000 + 4836 * 100 + 48;");
            holds("fits 4096 * 1024 * 1024 = 0;");
            told("fits 4096 * 1024 * 1024;", 0);
            holds("fits 2048 * 1024 * 1024 < 0;");
            holds("fits copies + copies < 0;");
            holds("fits copies + copies = -(2949 * 100 * 1000 + 6729 * 10 + 6);");
            holds("fits copies * copies = -(1651 * 1000 * 1000 + 5072 * 100 + 0);");
            told("fits copies < 0;", 0);
        });
        edge(13, "of or, and, not, <, = 1 or 0 (what is not 0 is true)", () -> {
            holds("fits (2 or 0) = 1 and (0 or -5) = 1 and (0 or 0) = 0;");
            holds("fits (2 and -3) = 1 and (2 and 0) = 0 and (0 and 2) = 0;");
            holds("fits (not 2) = 0 and (not -1) = 0 and (not 0) = 1;");
            holds("fits (2 < 3) = 1 and (3 < 3) = 0 and (4 < 3) = 0;");
            holds("fits (3 = 3) = 1 and (3 = 4) = 0;");
            holds("fits (-1 < 0) = 1 and (0 < -1) = 0;");
            holds("fits -1;");
            told("fits 0;", 0);
            holds("fits not not 7 = 7;");
        });
        edge(13, "x % y is x modulo y (with x's sign; 0, if y is 0).", () -> {
            holds("fits 7 % 4 = 3;");
            holds("fits -7 % 4 = -3;");
            holds("fits 7 % -4 = 3;");
            holds("fits -7 % -4 = -3;");
            holds("fits 7 % 0 = 0;");
            holds("fits 0 % 0 = 0;");
            holds("fits -7 % 0 = 0;");
            holds("fits 4 % 4 = 0;");
            holds("fits 3 % 4 = 3;");
            holds("fits 7 % 1 = 0;");
            holds("fits (-2147 * 1000 * 1000 - 4836 * 100 - 48) % -1 = 0;");
            told("fits 5 % (3 - 3);", 0);
        });
    }

    private static void faults() {
        edge(13, "FAULT: the place of the first byte of the first TOKEN, from left to right, that can't stand there", () -> {
            fault("fits a b ?;", 7);
            fault("fits ? b c;", 5);
            fault("fits 1 12345;", 7);
            fault("fits 12345 1;", 5);
            fault("fits a copies;", 7);
            fault("fits\n\n\na\n\n\ncopies;", 11);
        });
        edge(13, "(the text's size, if it ends too early)", () -> {
            fault("", 0);
            fault("fits", 4);
            fault("fits ", 5);
            fault("fits a", 6);
            fault("fits a\n\n", 8);
            fault("fits a +", 8);
            fault("fits (a", 7);
            fault("fits not", 8);
            fault("fits a <", 8);
            fault("fits" + blanks(156), 160);
        });
        edge(13, "also of a byte that begins none", () -> {
            fault("?", 0);
            fault("fits ?", 5);
            fault("fits 1?;", 6);
            fault("fits 1;?", 7);
            for (char c = 0; c < 256; c++) {
                if ("abcdefghijklmnopqrstuvwxyz0123456789();+-*%<= \n".indexOf(c) < 0) {
                    fault(c + " 1;", 0);
                    fault("fits " + c + ";", 5);
                    fault("fits " + c + "1;", 5);
                    fault("fits 1" + c + "1;", 6);
                    fault("fits 1;" + c, 7);
                }
            }
        });
        edge(13, "a WORD that is neither KEY nor NAME", () -> {
            fault("fits x;", 5);
            fault("fits a xor b;", 7);
            fault("fits 1; x", 8);
            fault("fits a and nota;", 11);
        });
        edge(13, "a NUMBER that is too long", () -> {
            fault("fits a < 12345;", 9);
            fault("fits 1; 12345", 8);
            fault("12345", 0);
        });
    }

    private static void open() {
        edge(13, "a ( , a not, a - ahead of a ONE while 5 of these are open", () -> {
            fits("fits (((((a)))));");
            fault("fits ((((((a))))));", 10);
            fits("fits not not not not not a;");
            fault("fits not not not not not not a;", 25);
            fits("fits -----a;");
            fault("fits ------a;", 10);
            fits("fits not not -(-a);");
            fault("fits not(-(-(a;", 12);
            fault("fits not not(-(-a));", 15);
            fits("fits not(-(-a));");
            fault("fits not not not not not (a);", 25);
            fault("fits not not not not not -a;", 25);
            fault("fits (((((-a)))));", 10);
            fault("fits (((((not a)))));", 10);
            fault("fits -----(a);", 10);
            // what is no more than 5 deep may come as often as it likes
            fits("fits (((((a))))) + (((((b)))));");
        });
        edge(13, "a - ahead of a ONE while 5 of these are open", () -> {
            // the sign between two terms opens nothing
            fits("fits (((((a - b)))));");
            fault("fits (((((a - -b)))));", 14);
            fits("fits a - - - - - - b;");
            fault("fits a - - - - - - - b;", 19);
        });
        edge(13, "(a ( till its ) , not and - till what they belong to ends).", () -> {
            fits("fits ((((a)) + (((b)))));");
            fault("fits ((((a)) + ((((b))))));", 18);
            fits("fits -----a - -----b;");
            fits("fits -----a * -----b;");
            fits("fits not not not not not a and not not not not not b;");
            fits("fits not not not not -a < -b;");
            fault("fits not not not not not a < -b;", 29);
            fault("fits not not not not not a = (b);", 29);
            fault("fits not not not not not a + (b);", 29);
            fits("fits ----(a) - (((((b)))));");
            fits("fits ----(a) * (((((b)))));");
            fault("fits ----(a * (b));", 14);
            fits("fits not not not not (a) and (((((b)))));");
            fits("fits not not not not (a) or not not not not not b;");
        });
    }

    private static void force() {
        edge(14, "A TEXT is THE RULE: which was.", () -> none().text("fits 0;").text("fits 1;").due(0, "force", 2).due(2, "force", 1)
            .due(1, "force", 1).due(1, "force", 0).due(0, "count", 5).call("text"));
        edge(14, "BAD.", () -> {
            none().refused(BAD, "force", 1).due(0, "force", 0);
            busy(pair()).refused(BAD, "force", 3).refused(BAD, "force", -1).refused(BAD, "force", 6).refused(BAD, "force", LEAST_INT)
                .refused(BAD, "force", MOST_INT).due(2, "force", 1).due(1, "force", 2);
        });
    }
}
