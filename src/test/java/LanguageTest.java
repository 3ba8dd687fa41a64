import java.io.IOException;
import java.nio.file.Files;
import java.nio.file.Path;
import java.util.List;

/** Tests what of ../shared/LANGUAGE.md can be seen in the text of the class; run from the root. */
public final class LanguageTest {
    private static final Path SOURCE = Path.of("src/main/java/SignRoots.java");
    private static final String[] RULED_OUT = {"import ", "package ", "->", "::", "catch", "try ", "finally",
        "assert ", "synchronized", "Exact(", "Double.", "Float.", "System.out", "System.err", "nanoTime",
        "currentTimeMillis", "Random", "Thread", "equals(", "hashCode(", "toString(", "getMessage",
        "while (true)", "for (;;)", "static {", "volatile", "transient", "extends "};

    private static int wrong = 0;

    public static void main(String[] args) throws IOException {
        List<String> lines = Files.readAllLines(SOURCE);
        for (int i = 0; i < lines.size(); i++) {
            String line = lines.get(i);
            String text = line.trim();
            if (!text.startsWith("*") && !text.startsWith("/")) {
                checkWords(i + 1, line);
            }
            if (line.length() > 110) {
                say(i + 1, "a line of over 110 characters");
            }
        }
        System.out.println(wrong == 0 ? "the text keeps to the rules" : wrong + " breaches of the rules");
        if (wrong != 0) {
            System.exit(1);
        }
    }

    private static void checkWords(int number, String line) {
        for (String word : RULED_OUT) {
            if (line.contains(word)) {
                say(number, "'" + word.trim() + "' is ruled out");
            }
        }
        for (int i = 0; i < line.length(); i++) {
            if (line.charAt(i) > 126 || line.charAt(i) < 32) {
                say(number, "a character that is not plain");
            }
        }
    }

    private static void say(int number, String what) {
        wrong++;
        System.out.println("line " + number + ": " + what);
    }
}
