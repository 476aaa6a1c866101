import java.nio.charset.StandardCharsets;
import java.nio.file.Files;
import java.nio.file.Path;
import java.util.List;
import java.util.Set;
import java.util.TreeSet;

/**
 * Reads the class as javac does and looks for what the rules of LANGUAGE.md do not leave; its first argument is the source.
 * So that a rule can't be forgotten, small sources that break one each must be found out, by the rule's number.
 */
public final class LanguageTest {
    private static int wrong = 0;

    private static void must(boolean is, String what) {
        if (!is) {
            wrong++;
            System.out.println(what);
        }
    }

    public static void main(String[] args) throws Exception {
        Path source = Path.of(args.length > 0 ? args[0] : "src/main/java/JoinDraws.java");
        String text = Files.readString(source, StandardCharsets.UTF_8);
        for (String broken : Language.brokenBy(text, Path.of("../shared/DOC.md"))) {
            must(false, broken);
        }
        must(text.lines().allMatch(line -> line.length() <= 140 && line.indexOf('\t') < 0), "a line is long, or has a tab");
        int samples = 0;
        Set<Integer> rules = new TreeSet<>();
        for (String[] sample : LanguageSamples.BREAKS) {
            int rule = Integer.parseInt(sample[0]);
            rules.add(rule);
            samples++;
            List<String> found = Language.brokenBy(sampleOf(sample[1]), null);
            must(found.stream().anyMatch(f -> f.startsWith("rule " + rule + ",")), "rule " + rule + " is broken unseen by: " + sample[1]
                + " (seen: " + found + ")");
        }
        for (String fine : LanguageSamples.FINE) {
            samples++;
            List<String> found = Language.brokenBy(sampleOf(fine), null);
            must(found.isEmpty(), found + " seen in: " + fine);
        }
        must(rules.equals(Set.of(1, 2, 3, 4, 5, 6, 8, 9, 10, 11, 12)), "the samples break the rules " + rules);
        System.out.println(wrong == 0 ? "the source keeps to the language; of " + samples + " samples all were seen as they are"
            : wrong + " places do not keep to the language, or were not seen");
        if (wrong != 0) {
            System.exit(1);
        }
    }

    /** Members of a class; the imports are those that a rule leaves, as far as they are needed. */
    private static String sampleOf(String members) {
        return "import java.util.*;\npublic final class Sample {\n" + members + "\n}\n";
    }
}
