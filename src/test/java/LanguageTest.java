import java.lang.reflect.Constructor;
import java.lang.reflect.Executable;
import java.lang.reflect.Field;
import java.lang.reflect.Method;
import java.lang.reflect.Modifier;
import java.nio.charset.StandardCharsets;
import java.nio.file.Files;
import java.nio.file.Path;
import java.util.ArrayList;
import java.util.List;
import java.util.Set;
import java.util.TreeSet;
import java.util.regex.Matcher;
import java.util.regex.Pattern;

/** What of LANGUAGE.md can be seen by reading the source and the compiled face. Its first argument is the source. */
public final class LanguageTest {
    private static final String[] FACE = {"int relation(int,int)", "int row(int,int,int,int,int)", "int remove(int,int)",
        "int restore(int,int)", "int copies(int,int,int)", "int told(int,int,int)", "long worth(int,int)", "int about(int,int)",
        "int query(int)", "int shape(int)", "int feed(int)", "int text()", "int force(int)", "long weight(int,int)",
        "long bound(int)", "long space()", "long answers()", "int at(long,int)", "long find(int)", "int draw(int,int)",
        "long shuffle(int,int,int)", "long odds(int,int,int)", "long values(int,int)", "int likeliest(int)", "int dangling(int)",
        "long without(int,int)", "long key(int)", "int strip(int,long)", "int slate(int)", "long lot(int,int,int,int,int)",
        "int tells(int,int)", "int film(int,int)", "int image()", "int back()", "int count(int)", "int sheet(int,int,int)",
        "int put(int,int,long)", "long item(int,int)", "int copy(int,int,int,int,int)", "int load(int,int,int,int,int)",
        "int taken(int,int)"};
    private static final String[] CONSTANTS = {"NONE", "BAD", "STATE", "FULL", "GREAT", "NO"};
    /** Words and signs that no rule leaves, outside comments and texts. */
    private static final String[] FORBIDDEN = {"\\bthrow\\b", "\\bthrows\\b", "\\btry\\b", "\\bcatch\\b", "\\bfinally\\b",
        "\\bsynchronized\\b", "\\bassert\\b", "\\bpackage\\b", "->", "::", "\\bhashCode\\b", "\\btoString\\b", "Exact\\b",
        "\\bcurrentTimeMillis\\b", "\\bnanoTime\\b", "\\bThread\\b", "\\bRandom\\b", "\\bvolatile\\b", "\\bnative\\b", "\\bprotected\\b",
        "\\bdefault\\s+\\w+\\s*\\(", "\\bSystem\\.(?!arraycopy\\b)", "\\bArrays\\.(?!copyOf\\b|copyOfRange\\b|fill\\b)",
        "\\bMath\\.(?!min\\b|max\\b|abs\\b)", "\\bInteger\\.(?!bitCount\\b)", "\\bLong\\.", "\\bCharacter\\.", "\\bObject\\b", "@",
        "\\bimport (?!java\\.util\\.Arrays;)", "\"\\s*\\+(?!\\+)", "(?<!\\+)\\+\\s*\"", "\\bwhile \\(true\\)", "\\bfor \\(;;"};

    private static int wrong = 0;

    private static void must(boolean is, String what) {
        if (!is) {
            wrong++;
            System.out.println(what);
        }
    }

    public static void main(String[] args) throws Exception {
        Path source = Path.of(args.length > 0 ? args[0] : "src/main/java/JoinDraws.java");
        String text = Files.readString(source, StandardCharsets.UTF_8);
        words(text);
        lengths(text);
        face();
        for (Class<?> inside : JoinDraws.class.getDeclaredClasses()) {
            must(Modifier.isStatic(inside.getModifiers()) && !Modifier.isPublic(inside.getModifiers()), inside + " is not as rule 1 asks");
            must(inside.getDeclaredClasses().length == 0, inside + " has classes");
            members(inside);
        }
        members(JoinDraws.class);
        must(JoinDraws.class.getDeclaredClasses().length <= 11, "more than some twelve classes");
        System.out.println(wrong == 0 ? "the source keeps to the language" : wrong + " places do not keep to the language");
        if (wrong != 0) {
            System.exit(1);
        }
    }

    private static void words(String text) {
        must(text.chars().allMatch(c -> c == '\n' || c >= 32 && c < 127), "the source has signs outside 32 .. 126");
        must(!text.contains("\t"), "the source has tabs");
        String code = text.replaceAll("(?s)/\\*.*?\\*/", " ").replaceAll("//[^\n]*", " ")
            .replaceAll("'(\\\\.|[^'\\\\])'", "'x'").replaceAll("\"(\\\\.|[^\"\\\\])*\"", "\"\"");
        for (String forbidden : FORBIDDEN) {
            Matcher m = Pattern.compile(forbidden).matcher(code);
            while (m.find()) {
                must(false, "line " + code.substring(0, m.start()).split("\n", -1).length + " or so: '" + m.group() + "'");
            }
        }
    }

    /** A method starts where a line that ends with an opening brace has a parenthesis and the indent of members. */
    private static void lengths(String text) {
        String[] lines = text.split("\n");
        for (int i = 0; i < lines.length; i++) {
            Matcher m = Pattern.compile("^(    |        )[A-Za-z].*\\(.*\\) \\{$").matcher(lines[i]);
            if (m.matches() && !lines[i].trim().matches("(for|if|while|switch|else).*")) {
                int end = i;
                while (!lines[end].equals(m.group(1) + "}")) {
                    end++;
                }
                must(end - i < 60, "line " + (i + 1) + ": a method of " + (end - i + 1) + " lines");
            }
            must(lines[i].length() <= 140, "line " + (i + 1) + " is long");
        }
    }

    private static String told(Class<?> answer, Executable e, String name) {
        List<String> types = new ArrayList<>();
        for (Class<?> c : e.getParameterTypes()) {
            types.add(c.getName());
        }
        return answer.getName() + " " + name + "(" + String.join(",", types) + ")";
    }

    private static void face() {
        must(Modifier.isPublic(JoinDraws.class.getModifiers()) && Modifier.isFinal(JoinDraws.class.getModifiers()), "not public and final");
        Set<String> due = new TreeSet<>(List.of(FACE));
        Set<String> got = new TreeSet<>();
        for (Method m : JoinDraws.class.getDeclaredMethods()) {
            if (!Modifier.isPrivate(m.getModifiers())) {
                must(Modifier.isPublic(m.getModifiers()) && !Modifier.isStatic(m.getModifiers()), m + " is not as the face asks");
                got.add(told(m.getReturnType(), m, m.getName()));
            }
        }
        must(due.equals(got), "the face is " + got);
        Constructor<?>[] makers = JoinDraws.class.getDeclaredConstructors();
        must(makers.length == 1 && Modifier.isPublic(makers[0].getModifiers()) && makers[0].getParameterCount() == 0, "the constructor");
        Set<String> constants = new TreeSet<>();
        for (Field f : JoinDraws.class.getDeclaredFields()) {
            if (!Modifier.isPrivate(f.getModifiers())) {
                constants.add(f.getName());
                must(f.getType() == (f.getName().equals("NO") ? long.class : int.class), f + " is of another type");
                must(Modifier.isPublic(f.getModifiers()) && Modifier.isFinal(f.getModifiers()), f + " is no constant");
            }
        }
        must(constants.equals(new TreeSet<>(List.of(CONSTANTS))), "the constants are " + constants);
    }

    private static void members(Class<?> of) {
        Set<String> publicNames = new TreeSet<>();
        for (String f : FACE) {
            publicNames.add(f.substring(f.indexOf(' ') + 1, f.indexOf('(')));
        }
        int fields = 0;
        for (Field f : of.getDeclaredFields()) {
            if (Modifier.isStatic(f.getModifiers())) {
                must(Modifier.isFinal(f.getModifiers()), f + " is static and not final");
                must(f.getType().isPrimitive() || f.getType() == String.class || f.getType().isArray(), f + " is a static of another type");
            } else {
                fields++;
            }
        }
        must(fields <= 20, of + " has " + fields + " fields");
        for (Method m : of.getDeclaredMethods()) {
            must(m.getParameterCount() <= 7, m + " takes more than seven");
            boolean ofFace = of == JoinDraws.class && Modifier.isPublic(m.getModifiers());
            must(ofFace || !publicNames.contains(m.getName()), m + " bears the name of a public one");
        }
    }
}
