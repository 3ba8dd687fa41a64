import java.io.IOException;
import java.nio.file.Files;
import java.nio.file.Path;
import java.util.Set;
import java.util.TreeMap;
import java.util.TreeSet;
import java.util.regex.Matcher;
import java.util.regex.Pattern;

/**
 * Tests what of ../shared/LANGUAGE.md can be seen in the text of the class; run from the root. The
 * rules are named by their numbers. It asks for more than they do where the class needs less (no
 * Math, no list, no catch): what is newly needed, and allowed there, may be allowed here.
 */
public final class LanguageTest {
    private static final Path SOURCE = Path.of("src/main/java/SignRoots.java");

    private static final String[][] RULED_OUT = {
        {"1", "package ", "import ", "protected "},
        {"2", "->", "::"},
        {"3", "Double.", "Float.", "Math.", "[][][]", "State[][]", "Division[][]"},
        {"5", "static {", "static int ", "static long ", "static boolean ", "volatile", "transient"},
        {"6", "finally", "assert ", "synchronized", "equals(", "hashCode(", "toString(", "getMessage", "catch",
            "try ", "extends ", "instanceof"},
        {"9", "while (true)", "for (;;)", "do {"},
        {"13", "nanoTime", "currentTimeMillis", "Random", "Thread", "System.out", "System.err", "System.in", "getenv"},
    };

    /** All that may stand in the code with a capital letter ahead, beside constants. */
    private static final Set<String> NAMES = Set.of("SignRoots", "State", "Division", "Tried", "System",
        "IndexOutOfBoundsException", "IllegalArgumentException", "IllegalStateException");

    private static final Pattern METHOD =
        Pattern.compile("(?:[\\w\\[\\]]+ )(\\w+)\\(([^()]*)\\)\\s*(?:throws [\\w, ]+)?\\{");

    private static final TreeMap<String, String> BODIES = new TreeMap<>();
    private static int wrong = 0;

    public static void main(String[] args) throws IOException {
        String code = withoutComments(Files.readString(SOURCE));
        checkCharacters(Files.readString(SOURCE));
        checkWords(code);
        checkNames(code);
        checkTexts(code);
        readMethods(code);
        checkSizes(code);
        checkChains();
        System.out.println(wrong == 0 ? "the text keeps to the rules" : wrong + " breaches of the rules");
        if (wrong != 0) {
            System.exit(1);
        }
    }

    private static void say(String rule, String what) {
        wrong++;
        System.out.println("rule " + rule + ": " + what);
    }

    /** Leaves the lines in their places. */
    private static String withoutComments(String source) {
        StringBuilder code = new StringBuilder();
        for (String line : source.split("\n")) {
            String text = line.trim();
            boolean comment = text.startsWith("/") || text.startsWith("*");
            code.append(comment ? "" : line).append('\n');
        }
        return code.toString();
    }

    private static void checkCharacters(String source) {
        for (String line : source.split("\n")) {
            if (line.length() > 110) {
                say("11", "a line of over 110 characters: " + line);
            }
            for (char c : line.toCharArray()) {
                if (c > 126 || c < 32) {
                    say("3", "a character that is not plain: " + line);
                }
            }
        }
    }

    private static void checkWords(String code) {
        String fieldless = code.replaceAll("static final \\w+", "").replaceAll("static \\w+ \\w+\\(", "");
        for (String[] row : RULED_OUT) {
            for (int i = 1; i < row.length; i++) {
                if (fieldless.contains(row[i])) {
                    say(row[0], "'" + row[i].trim() + "' is ruled out");
                }
            }
        }
    }

    private static void checkNames(String code) {
        Matcher names = Pattern.compile("\\b[A-Z]\\w*").matcher(code.replaceAll("\"[^\"]*\"", ""));
        while (names.find()) {
            String name = names.group();
            if (!NAMES.contains(name) && !name.equals(name.toUpperCase())) {
                say("4", name + " is not in the library");
            }
        }
        Matcher calls = Pattern.compile("\\bSystem\\.(\\w+)").matcher(code);
        while (calls.find()) {
            if (!calls.group(1).equals("arraycopy")) {
                say("4", "System." + calls.group(1));
            }
        }
    }

    /** Texts stand in exceptions alone. */
    private static void checkTexts(String code) {
        for (String line : code.split("\n")) {
            boolean thrown = line.trim().matches("throw new \\w+Exception\\(\"[^\"]+\"\\);");
            if ((line.contains("\"") || line.contains("throw ")) && !thrown) {
                say("6", "another text, or another throw: " + line.trim());
            }
        }
    }

    private static void readMethods(String code) {
        Matcher heads = METHOD.matcher(code);
        while (heads.find()) {
            String head = heads.group();
            String name = heads.group(1);
            if (head.startsWith("else ") || head.startsWith("new ") || Set.of("if", "for", "switch").contains(name)) {
                continue;
            }
            int depth = 1;
            int end = heads.end();
            while (depth > 0 && end < code.length()) {
                depth += code.charAt(end) == '{' ? 1 : code.charAt(end) == '}' ? -1 : 0;
                end++;
            }
            String body = code.substring(heads.end(), end);
            if (BODIES.put(name, body) != null && !Character.isUpperCase(name.charAt(0))) {
                say("1", "two methods are named " + name);
            }
            if (heads.group(2).split(",").length > 7) {
                say("11", "more than seven parameters: " + name);
            }
            if (body.split("\n").length > 60) {
                say("11", "more than sixty lines: " + name);
            }
        }
        if (BODIES.size() < 60) {
            say("11", "only " + BODIES.size() + " methods were found: this test has to be mended");
        }
    }

    private static void checkSizes(String code) {
        if (code.split("\\bclass ").length - 1 > 12) {
            say("11", "more than twelve classes");
        }
        int fields = 0;
        for (String line : code.split("\n")) {
            fields += line.matches("    private (final )?\\w+(\\[\\])* \\w+( = .*)?;") ? 1 : 0;
        }
        if (fields > 20 || fields < 5) {
            say("11", fields + " fields in SignRoots");
        }
    }

    /** The one method that calls itself counts once; no other one may come back to itself. */
    private static void checkChains() {
        TreeSet<String> recursive = new TreeSet<>();
        for (String name : BODIES.keySet()) {
            int chain = chainOf(name, 1, recursive);
            if (chain > 8) {
                say("11", chain + " calls deep from " + name);
            }
        }
        if (!recursive.equals(Set.of("tryQuotients"))) {
            say("8", "methods that come back to themselves: " + recursive);
        }
    }

    private static int chainOf(String name, int depth, TreeSet<String> recursive) {
        int longest = depth;
        Matcher calls = Pattern.compile("\\b(\\w+)\\(").matcher(BODIES.get(name));
        while (calls.find()) {
            String called = calls.group(1);
            if (called.equals(name)) {
                recursive.add(name);
            } else if (BODIES.containsKey(called) && depth < 20) {
                longest = Math.max(longest, chainOf(called, depth + 1, recursive));
            }
        }
        return longest;
    }
}
