import java.io.IOException;
import java.nio.charset.StandardCharsets;
import java.nio.file.Files;
import java.nio.file.Path;
import java.util.ArrayList;
import java.util.HashMap;
import java.util.List;
import java.util.Map;
import java.util.regex.Matcher;
import java.util.regex.Pattern;

/** Holds the cases: each names its promise and the words of the document that it is about. Classes of cases extend it for its names. */
class Edges {
    static final int NONE = -1, BAD = -2, STATE = -3, FULL = -4, GREAT = -5;
    static final int NOTHING = -11, OUTSIDE = -12, OTHER = -13, BELOW = -14;
    static final int BAG = 0, SET = 1, LOG = 2, KEYED = 3, CAPPED = 4, DOUBLED = 5;
    static final int LONGS = 0, INTS = 1, BYTES = 2;
    static final int MOST = 2000000000, LEAST_INT = Integer.MIN_VALUE, MOST_INT = Integer.MAX_VALUE;
    static final long NO = -4611686018427387904L, LEAST_LONG = Long.MIN_VALUE, MOST_LONG = Long.MAX_VALUE;

    private static final int PROMISES = 42;

    private record Case(int promise, String words) { }

    private static final List<Case> CASES = new ArrayList<>();
    private static int asked = 0;
    private static int wrong = 0;

    static void edge(int promise, String words, Runnable calls) {
        CASES.add(new Case(promise, words));
        int before = asked;
        try {
            calls.run();
        } catch (RuntimeException e) {
            wrong("threw " + e + (e.getCause() == null ? "" : " of " + e.getCause()));
        }
        if (asked == before) {
            wrong("asks for nothing");
        }
    }

    static void due(String call, long got, long want) {
        asked++;
        if (got != want) {
            wrong(call + " answered " + got + ", due is " + want);
        }
    }

    static void counted() {
        asked++;
    }

    static void wrong(String what) {
        wrong++;
        Case last = CASES.get(CASES.size() - 1);
        System.out.println("promise " + last.promise + ", '" + last.words + "': " + what);
    }

    /** Whether all answers were due, and the cases name all words of the document. */
    static boolean allHold(Path document) throws IOException {
        int unnamed = new Words(Files.readString(document, StandardCharsets.UTF_8)).unnamed();
        System.out.println(wrong == 0 && unnamed == 0
            ? CASES.size() + " cases, " + asked + " answers are as due, and no words of the document are without a case"
            : wrong + " answers are not as due, " + unnamed + " pieces of the document are without a case");
        return wrong == 0 && unnamed == 0;
    }

    /** The document's terms and promises, and which of their letters a case names. */
    private static final class Words {
        private final String whole;
        private final Map<Integer, String> texts = new HashMap<>();
        private final Map<Integer, boolean[]> named = new HashMap<>();

        Words(String document) {
            whole = plain(document);
            String terms = document.substring(document.indexOf("## Terms") + 8, document.indexOf("Ahead of the calls"));
            put(0, terms.replaceAll("```text|```|==== \\d", " "));
            Matcher m = Pattern.compile("(?m)^## Promise (\\d+):.*\\n+`[^`]*`:(.*(?:\\n(?!## ).*)*)").matcher(document);
            while (m.find()) {
                put(Integer.parseInt(m.group(1)), m.group(2));
            }
        }

        private void put(int promise, String text) {
            texts.put(promise, plain(text));
            named.put(promise, new boolean[plain(text).length()]);
        }

        private static String plain(String text) {
            return text.replaceAll("\\s+", " ").trim();
        }

        int unnamed() {
            int unnamed = 0;
            for (Case c : CASES) {
                if (!name(c)) {
                    System.out.println("promise " + c.promise + ", '" + c.words + "': no words of the document, or words that it has twice");
                    unnamed++;
                }
            }
            for (int p = 0; p <= PROMISES; p++) {
                unnamed += piecesOf(p);
            }
            return unnamed;
        }

        private boolean name(Case c) {
            return texts.getOrDefault(c.promise, "").contains(c.words) ? name(c.promise, c.words)
                : texts.get(0).contains(c.words) ? name(0, c.words) : whole.contains(c.words);
        }

        private boolean name(int promise, String words) {
            String text = texts.get(promise);
            int at = text.indexOf(words);
            if (text.indexOf(words, at + 1) >= 0) {
                return false;
            }
            java.util.Arrays.fill(named.get(promise), at, at + words.length(), true);
            return true;
        }

        /** Tells the pieces with letters or digits that no case names; a promise that is missing is one. */
        private int piecesOf(int promise) {
            String text = texts.get(promise);
            if (text == null) {
                System.out.println("the document has no promise " + promise);
                return 1;
            }
            int pieces = 0;
            StringBuilder piece = new StringBuilder();
            for (int i = 0; i <= text.length(); i++) {
                if (i < text.length() && !named.get(promise)[i]) {
                    piece.append(text.charAt(i));
                } else {
                    if (piece.toString().matches(".*[A-Za-z0-9].*")) {
                        System.out.println((promise == 0 ? "the terms" : "promise " + promise) + " without a case: '" + piece + "'");
                        pieces++;
                    }
                    piece.setLength(0);
                }
            }
            return pieces;
        }
    }
}
