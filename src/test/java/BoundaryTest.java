import java.io.IOException;
import java.math.BigInteger;
import java.nio.file.Files;
import java.nio.file.Path;
import java.util.ArrayList;
import java.util.Arrays;
import java.util.List;
import java.util.TreeMap;

/**
 * For each sentence of the document that names a boundary case, a test of its own: the sentence, and
 * a run of calls on a new object with the answers that are due. A sentence must stand in the part of
 * ../shared/DOC.md that is told ahead of it, and each line of the promises must have a test.
 *
 * <p>A step is a call ("put 0 8 1 = 8"; MIN and MAX are the smallest and the largest int; IOOBE, IAE
 * and ISE are what it throws), or one of the steps of many calls:
 * "type +-0" clears the buffer and appends a text, "fill 60 +" appends a character as often,
 * "set 0 +-0" types a text and loads it, "roots 1 -9" adds roots, "text 0 = +-0" and
 * "texts = + + + + +" look at all signs of one or of all polynomials.
 * A step that has no answer must not throw. After each call that throws, and after each look, the
 * digest must be the one from before it. As a digest might hide what another call leaves undone, each
 * run of calls is made once more without it.
 */
public final class BoundaryTest {
    private static final Path DOCUMENT = Path.of("../shared/DOC.md");
    private static final String[] LOOKS = {"firstError", "sign", "of", "isRoot", "times", "quotients", "best",
        "many", "isIn", "coefficient", "count", "takenShare", "digest"};
    private static final String FAR = "MIN -100 100 MAX";

    private static final TreeMap<String, List<String>> PARTS = new TreeMap<>();
    private static final TreeMap<String, List<String>> TESTED = new TreeMap<>();
    private static String part = "";
    private static String sentence = "";
    private static boolean watching = true;
    private static int tests = 0;
    private static int wrong = 0;

    public static void main(String[] args) throws IOException {
        readDocument();
        terms();
        changers();
        texts();
        lookers();
        everyLineIsTested();
        System.out.println(wrong == 0 ? tests + " boundary tests hold" : wrong + " steps are wrong");
        if (wrong != 0) {
            System.exit(1);
        }
    }

    // ---- the document

    private static void readDocument() throws IOException {
        String heading = "";
        for (String line : Files.readAllLines(DOCUMENT)) {
            if (line.startsWith("#")) {
                heading = line.replaceAll("^#+ ", "");
            } else if (!line.isBlank()) {
                PARTS.computeIfAbsent(heading, key -> new ArrayList<>()).add(line.trim());
            }
        }
    }

    private static void everyLineIsTested() {
        for (String heading : PARTS.keySet()) {
            if (heading.startsWith("Promise")) {
                for (String line : PARTS.get(heading)) {
                    List<String> told = TESTED.getOrDefault(heading, List.of());
                    if (told.stream().noneMatch(line::contains)) {
                        fail(heading + ": no test for the line: " + line);
                    }
                }
            }
        }
    }

    private static void part(String heading) {
        part = heading;
    }

    // ---- running the steps

    private static void fail(String what) {
        wrong++;
        System.out.println(what);
    }

    private static void wrongStep(String what, Object got, Object want) {
        fail(part + ": \"" + sentence + "\": " + what + " is " + got + ", due is " + want);
    }

    private static void start(String told) {
        sentence = told;
        tests++;
        if (PARTS.getOrDefault(part, List.of()).stream().noneMatch(line -> line.contains(told))) {
            fail(part + ": the document doesn't say: " + told);
        }
        TESTED.computeIfAbsent(part, key -> new ArrayList<>()).add(told);
    }

    /** One test: a sentence of the document, and the steps on a new object. */
    private static void test(String told, String... steps) {
        start(told);
        for (boolean watched : new boolean[] {true, false}) {
            watching = watched;
            run(new SignRoots(), steps);
        }
        watching = true;
    }

    private static void run(SignRoots x, String... steps) {
        for (String step : steps) {
            int equals = step.lastIndexOf(" = ");
            String call = equals < 0 ? step : step.substring(0, equals);
            String got = doStep(x, call);
            if (equals >= 0 && !got.equals(step.substring(equals + 3))) {
                wrongStep(call, got, step.substring(equals + 3));
            }
            if (equals < 0 && threw(got)) {
                wrongStep(call, got, "no exception");
            }
        }
    }

    /** A call with a "?" throws for each of the arguments. */
    private static void refused(String told, String call, String arguments, String exception, String... ahead) {
        start(told);
        SignRoots x = new SignRoots();
        run(x, ahead);
        for (String argument : arguments.split(" ")) {
            run(x, call.replace("?", argument) + " = " + exception);
        }
    }

    private static void noSuchPolynomial(String... calls) {
        for (String call : calls) {
            refused("Throws `IndexOutOfBoundsException` if there is no such polynomial", call, "-1 5 " + FAR,
                "IOOBE");
        }
    }

    private static String doStep(SignRoots x, String step) {
        String[] words = step.split(" ");
        switch (words[0]) {
            case "type":
                x.clearBuffer();
                return appendAll(x, words.length > 1 ? words[1] : "");
            case "fill":
                return appendAll(x, words[2].repeat(Integer.parseInt(words[1])));
            case "set":
                x.clearBuffer();
                appendAll(x, words[2]);
                return "" + x.load(Integer.parseInt(words[1]));
            case "roots":
                for (int i = 1; i < words.length; i++) {
                    x.root(Integer.parseInt(words[i]));
                }
                return "";
            case "text":
                return text(x, Integer.parseInt(words[1]));
            case "texts":
                return text(x, 0) + " " + text(x, 1) + " " + text(x, 2) + " " + text(x, 3) + " " + text(x, 4);
            default:
                return watching ? watched(x, words) : outcome(x, words);
        }
    }

    private static String outcome(SignRoots x, String[] words) {
        int[] a = new int[words.length - 1];
        for (int i = 0; i < a.length; i++) {
            a[i] = argument(words[i + 1]);
        }
        try {
            return call(x, words[0], a);
        } catch (IndexOutOfBoundsException e) {
            return exact(e, IndexOutOfBoundsException.class, "IOOBE");
        } catch (IllegalArgumentException e) {
            return exact(e, IllegalArgumentException.class, "IAE");
        } catch (IllegalStateException e) {
            return exact(e, IllegalStateException.class, "ISE");
        }
    }

    private static boolean threw(String got) {
        return got.equals("IOOBE") || got.equals("IAE") || got.equals("ISE");
    }

    private static String watched(SignRoots x, String[] words) {
        long before = x.digest();
        String got = outcome(x, words);
        if ((threw(got) || Arrays.asList(LOOKS).contains(words[0])) && x.digest() != before) {
            wrongStep("the digest after " + String.join(" ", words), "another one", "the same");
        }
        return got;
    }

    /** A class below the one that the document names would be the machine's own. */
    private static String exact(RuntimeException e, Class<?> due, String name) {
        return e.getClass() == due ? name : e.getClass().getName();
    }

    private static int argument(String word) {
        return word.equals("MIN") ? Integer.MIN_VALUE : word.equals("MAX") ? Integer.MAX_VALUE
            : Integer.parseInt(word);
    }

    private static String appendAll(SignRoots x, String text) {
        int length = 0;
        for (int i = 0; i < text.length(); i++) {
            length = x.append(text.charAt(i));
        }
        return "" + length;
    }

    private static String text(SignRoots x, int number) {
        StringBuilder text = new StringBuilder();
        for (int power = 8; power >= 0; power--) {
            int sign = x.sign(number, power);
            if (sign != 0 || text.length() > 0) {
                text.append(sign == 1 ? '+' : sign == -1 ? '-' : sign == 0 ? '0' : '?');
            }
        }
        return text.toString();
    }

    private static String call(SignRoots x, String name, int[] a) {
        switch (name) {
            case "put": return "" + x.put(a[0], a[1], a[2]);
            case "copy": return "" + x.copy(a[0], a[1]);
            case "divide": return "" + x.divide(a[0], a[1]);
            case "root": return "" + x.root(a[0]);
            case "unroot": return "" + x.unroot();
            case "lower": return "" + x.lower(a[0]);
            case "append": return "" + x.append(a[0]);
            case "clearBuffer": return "" + x.clearBuffer();
            case "firstError": return "" + x.firstError();
            case "load": return "" + x.load(a[0]);
            case "keep": return "" + x.keep(a[0]);
            case "goBack": return "" + x.goBack(a[0]);
            case "undo": return "" + x.undo();
            case "sign": return "" + x.sign(a[0], a[1]);
            case "of": return "" + x.of(a[0], a[1]);
            case "isRoot": return "" + x.isRoot(a[0], a[1]);
            case "times": return "" + x.times(a[0], a[1], a[2]);
            case "quotients": return "" + x.quotients(a[0], a[1]);
            case "best": return "" + x.best(a[0], a[1]);
            case "many": return "" + x.many(a[0], a[1], a[2]);
            case "isIn": return "" + x.isIn(a[0], a[1], a[2], a[3]);
            case "coefficient": return "" + x.coefficient(a[0]);
            case "count": return "" + x.count(a[0]);
            case "takenShare": return "" + x.takenShare(a[0]);
            case "digest": return "" + x.digest();
            default: throw new UnsupportedOperationException(name);
        }
    }

    /** The form of a text, as for of(): the last character is the sign of the power 0. */
    private static int form(String text) {
        int form = 0;
        String whole = "0".repeat(9 - text.length()) + text;
        for (int i = 0; i < 9; i++) {
            form = 3 * form + "-0+".indexOf(whole.charAt(i));
        }
        return form;
    }

    /** Joins steps and rows of steps. */
    private static String[] joined(Object... parts) {
        List<String> steps = new ArrayList<>();
        for (Object each : parts) {
            if (each instanceof String[] row) {
                steps.addAll(Arrays.asList(row));
            } else {
                steps.add((String) each);
            }
        }
        return steps.toArray(new String[0]);
    }

    private static String[] repeated(int often, String step) {
        String[] steps = new String[often];
        Arrays.fill(steps, step);
        return steps;
    }

    /** The sum of two signs, looked at in the power 0 of two polynomials of the degree 1. */
    private static String[] sumOf(char first, char second, String due) {
        List<String> steps = new ArrayList<>(List.of("set 0 +" + first, "set 1 +" + second,
            "many 0 1 0 = " + due.length()));
        for (char sign : "-0+".toCharArray()) {
            steps.add("set 2 +" + sign);
            steps.add("isIn 2 0 1 0 = " + (due.indexOf(sign) < 0 ? 0 : 1));
        }
        return steps.toArray(new String[0]);
    }

    /** The product of two signs, looked at in the power 0, with a sign that fits in the power 1. */
    private static String[] productOf(char first, char second, char due) {
        char middle = first == '0' ? second : first;
        List<String> steps = new ArrayList<>(List.of("set 0 +" + first, "set 1 +" + second));
        for (char sign : "-0+".toCharArray()) {
            steps.add("set 2 +" + middle + sign);
            steps.add("isIn 2 0 1 1 = " + (due == sign ? 1 : 0));
        }
        return steps.toArray(new String[0]);
    }

    private static String[] looks(String call, String... answers) {
        String[] steps = new String[answers.length];
        for (int i = 0; i < answers.length; i++) {
            steps[i] = call.replace("?", "" + i) + " = " + answers[i];
        }
        return steps;
    }

    // ---- the terms

    private static void terms() {
        part("What it is");
        manyCalls();
        part("Terms");
        test("divisions are rounded down", "set 0 +00+", "takenShare 0 = " + 1.0 / 3, "set 0 +0-00+00",
            "takenShare 0 = " + 5.0 / 7);
        part("Signs");
        signs();
        part("Polynomials");
        polynomials();
        products();
        roots();
        quotients();
        timesAndBest();
        changes();
        part("The whole polynomial");
        whole();
        part("Input text");
        inputText();
        snapshots();
        savedStates();
        part("Exceptions");
        exceptions();
    }

    /** Without the watch over the digest, whose calls would count, too. */
    private static void manyCalls() {
        start("An object is used for at most 512 calls after it has been made");
        SignRoots x = new SignRoots();
        for (int call = 1; call <= 510; call++) {
            int got = x.unroot();
            if (got != 99) {
                wrongStep("unroot " + call, got, 99);
            }
        }
        int refused = x.count(5);
        int saved = x.count(7);
        if (refused != 510 || saved != 6) {
            wrongStep("what is refused, what is saved", refused + ", " + saved, "510, 6");
        }
    }

    private static void signs() {
        test("A sign is -1, 0 or 1.", "put 0 1 -1 = 1", "sign 0 1 = -1", "put 0 1 0 = 0", "sign 0 1 = 0",
            "put 0 1 1 = 1", "sign 0 1 = 1", "put 0 1 2 = IAE", "put 0 1 -2 = IAE", "sign 0 1 = 1");
        test("of 0 and s it is s alone", joined(sumOf('0', '0', "0"), sumOf('0', '+', "+"), sumOf('0', '-', "-"),
            sumOf('+', '0', "+"), sumOf('-', '0', "-")));
        test("of s and s it is s alone", joined(sumOf('+', '+', "+"), sumOf('-', '-', "-"), sumOf('0', '0', "0")));
        test("of 1 and -1 it is all three signs", joined(sumOf('+', '-', "-0+"), sumOf('-', '+', "-0+")));
        test("The product of two signs is their product.", joined(productOf('+', '+', '+'),
            productOf('+', '-', '-'), productOf('-', '+', '-'), productOf('-', '-', '+')));
        test("The product of two signs is their product.", joined(productOf('0', '0', '0'),
            productOf('0', '+', '0'), productOf('-', '0', '0'), productOf('+', '0', '0'), productOf('0', '-', '0')));
    }

    private static void polynomials() {
        test("A polynomial has a degree, 0 to 8", "of 0 0 = 0", "put 0 8 1 = 8", "of 0 0 = 8", "put 0 8 0 = 0",
            "of 0 0 = 0", "put 0 9 1 = IAE");
        test("for each power of x, from 0 to its degree, a sign", "set 1 +-0+-0+-+",
            "sign 1 0 = 1", "sign 1 1 = -1", "sign 1 2 = 1", "sign 1 3 = 0", "sign 1 4 = -1", "sign 1 5 = 1",
            "sign 1 6 = 0", "sign 1 7 = -1", "sign 1 8 = 1");
        test("the leading one, is not 0", "set 0 +0000000-", "put 0 8 0 = 0", "of 0 0 = 0", "text 0 = -",
            "put 0 0 0 = -9", "text 0 = -");
        test("the signs of higher powers are 0", joined("set 0 +++++++++", "set 0 -",
            looks("sign 0 ?", "-1", "0", "0", "0", "0", "0", "0", "0", "0")));
        test("the signs of higher powers are 0", joined("set 0 +++++++++", "copy 1 0 = 0",
            looks("sign 0 ?", "1", "0", "0", "0", "0", "0", "0", "0", "0")));
        test("the signs of higher powers are 0", joined("set 0 +++++++++", "roots 0", "lower 0 = 1",
            looks("sign 0 ?", "0", "1", "0", "0", "0", "0", "0", "0", "0")));
        test("the signs of higher powers are 0", joined("set 0 +00000000", "divide 0 0 = 7",
            looks("sign 0 ?", "0", "0", "0", "0", "0", "0", "0", "1", "0")));
        test("There are 5 polynomials, numbered from 0, at first all 1 (of the degree 0).",
            joined("texts = + + + + +", looks("of ? 0", "0", "0", "0", "0", "0", "IOOBE"), "of -1 0 = IOOBE"));
    }

    private static void products() {
        test("those that have, for each power, one of the sum of both signs", "set 0 +00000000", "set 1 -",
            "many 0 1 0 = 1", "set 2 +0000000-", "isIn 2 0 1 0 = 1", "isIn 0 0 1 0 = 0", "isIn 1 0 1 0 = 0");
        test("those that have, for each power, one of the sum of both signs", "set 0 +-+-+-+-+",
            "set 1 -+-+-+-+-", "many 0 1 0 = 19683", "isIn 2 0 1 0 = 1", "set 2 -0+-0+-0+", "isIn 2 0 1 0 = 1");
        test("those that have, for each power, one of the sum of both signs", "set 1 -", "many 0 1 0 = 3",
            "isIn 0 0 1 0 = 1", "isIn 1 0 1 0 = 1", "set 2 ++", "isIn 2 0 1 0 = 0");
        test("the products of the sign of the power i in the first one and the sign of the power k less i in the "
            + "second one are added up, for all i", "set 0 +", "set 1 +0-", "isIn 1 0 1 1 = 1", "isIn 1 1 0 1 = 1",
            "isIn 0 0 1 1 = 0", "many 0 1 1 = 1", "many 1 0 1 = 1");
        test("are added up, for all i", "set 0 +000-", "set 1 +000+", "many 0 1 1 = 3", "set 2 +0000000-",
            "isIn 2 0 1 1 = 1", "set 2 +000+000-", "isIn 2 0 1 1 = 1", "set 2 +000-000-", "isIn 2 0 1 1 = 1",
            "set 2 +00+0000-", "isIn 2 0 1 1 = 0", "set 2 +0000000+", "isIn 2 0 1 1 = 0");
        test("the sum of several signs is 0 if all are 0", "set 0 +0", "many 0 0 1 = 1", "set 1 +00",
            "isIn 1 0 0 1 = 1", "set 1 +0+", "isIn 1 0 0 1 = 0", "set 1 +-0", "isIn 1 0 0 1 = 0");
        test("it is 1 if some are 1, and none is -1", "set 0 ++", "set 1 +0+", "many 0 0 1 = 1", "many 0 1 1 = 1",
            "set 2 +++", "isIn 2 0 0 1 = 1", "set 2 +0+", "isIn 2 0 0 1 = 0", "set 2 ++++", "isIn 2 0 1 1 = 1");
        test("it is -1 if some are -1, and none is 1", "set 0 +-", "set 1 +0-", "set 2 ++", "many 0 0 1 = 1",
            "set 3 +-+", "isIn 3 0 0 1 = 1", "set 3 +0+", "isIn 3 0 0 1 = 0", "many 1 2 1 = 1", "set 3 ++--",
            "isIn 3 1 2 1 = 1", "set 3 ++0-", "isIn 3 1 2 1 = 0");
        test("otherwise it is all three signs", "set 0 +-", "set 1 ++", "many 0 1 1 = 3", "set 2 +0-",
            "isIn 2 0 1 1 = 1", "set 2 ++-", "isIn 2 0 1 1 = 1", "set 2 +--", "isIn 2 0 1 1 = 1");
        test("(So one sign can be had from it, or three.)", "set 0 +++", "set 1 +-+", "many 0 1 1 = 27",
            "set 0 +++++", "set 1 +-+-+", "many 0 1 1 = 2187", "many 0 0 1 = 1");
    }

    private static void roots() {
        test("has 0 in it, where 0 to the power 0 is 1", "isRoot 0 0 = 0", "set 0 -", "isRoot 0 0 = 0", "set 0 +0",
            "isRoot 0 0 = 1", "set 0 ++", "isRoot 0 0 = 0", "set 0 +00000000", "isRoot 0 0 = 1",
            "set 0 +0000000-", "isRoot 0 0 = 0");
        test("if the sum of (its sign of the power k, times a to the power k), for all k, has 0 in it",
            "isRoot 0 1 = 0", "isRoot 0 -1 = 0", "set 0 -0000000+", "isRoot 0 1 = 1", "isRoot 0 -1 = 1",
            "set 0 +000000-", "isRoot 0 1 = 1", "isRoot 0 -1 = 0", "set 0 +++++++++", "isRoot 0 1 = 0",
            "isRoot 0 -1 = 1", "set 0 +-+-+-+-+", "isRoot 0 1 = 1", "isRoot 0 -1 = 0");
    }

    private static void quotients() {
        // Of ++ by 1, + is refused by the power 0 alone, and - by the power 1 alone.
        test("for each power k, from 0 to the degree of the first one", "set 0 ++", "quotients 0 1 = 0",
            "quotients 0 -1 = 1", "quotients 0 0 = 0", "set 0 +0", "quotients 0 0 = 1", "quotients 0 1 = 0",
            "quotients 0 -1 = 0");
        test("where signs of powers below 0 and above its degree are 0", "set 0 +-------+", "quotients 0 0 = 0",
            "set 0 +-------0", "quotients 0 0 = 1", "best 0 0 = " + form("+-------"), "set 0 -0000000+",
            "best 0 1 = " + form("--------"), "best 0 -1 = " + form("-+-+-+-+"));
        test("A polynomial of the degree 0 has none.", "quotients 0 -1 = 0", "quotients 0 0 = 0",
            "quotients 0 1 = 0", "best 0 -1 = -9", "best 0 0 = -9", "best 0 1 = -9", "divide 0 0 = -9");
        test("A polynomial of the degree 0 has none.", "set 0 -", "quotients 0 -1 = 0", "quotients 0 0 = 0",
            "quotients 0 1 = 0", "best 0 -1 = -9", "best 0 0 = -9", "best 0 1 = -9", "divide 0 1 = -9");
    }

    private static void timesAndBest() {
        test("How often a can be taken out of a polynomial is 0, if it has no quotient by a", "set 0 +++++++++",
            "times 0 1 0 = 0", "times 0 0 0 = 0", "set 0 +", "times 0 -1 0 = 0", "times 0 0 0 = 0",
            "times 0 1 0 = 0");
        // The quotients of ++++ by -1 are +-+, +0+ and +++, the last one is the best.
        test("otherwise it is 1 more than the most that a can be taken out of one of its quotients by a",
            "set 0 ++++", "quotients 0 -1 = 3", "times 0 -1 0 = 3", "set 0 +++++++++", "times 0 -1 0 = 8",
            "set 0 ++", "times 0 -1 0 = 1");
        test("The best quotient is one out of which a can be taken the most often", "set 0 ++++",
            "best 0 -1 = " + form("+++"));
        test("of several the first one", "set 0 -+--+", "quotients 0 1 = 5", "best 0 1 = " + form("-+--"),
            "set 0 ++------", "best 0 -1 = " + form("+------"));
        // ++-+ and +-++ are as good, as are -+-- and --+-: the lower power tells.
        test("as they are compared by the sign of the power 0, then 1, and so on", "set 0 ++0++",
            "best 0 -1 = " + form("++-+"), "set 0 --+--", "best 0 -1 = " + form("-+--"));
        test("(-1 ahead of 0, 0 ahead of 1)", "set 0 -++-", "quotients 0 1 = 3", "best 0 1 = " + form("--+"),
            "set 0 ++--", "best 0 -1 = " + form("+--"));
    }

    private static void changes() {
        test("its signs that are not 0, in the order of their powers, are looked at", "of 0 2 = 0",
            "set 0 -0000000+", "of 0 2 = 1", "set 0 +0000000+", "of 0 2 = 0", "set 0 +0-0+0000", "of 0 2 = 2");
        test("a change is where one is another one than the one ahead of it", "set 0 +-+-+-+-+", "of 0 2 = 8",
            "set 0 +--+", "of 0 2 = 2", "set 0 +++++++++", "of 0 2 = 0", "set 0 -", "of 0 2 = 0");
        test("For a as 1, a can be taken out as often as there are changes", "times 0 1 1 = 0", "set 0 +-+-+-+-+",
            "times 0 1 1 = 8", "times 0 1 0 = 8", "set 0 +00000000", "times 0 1 1 = 0", "times 0 1 0 = 0");
        test("for a as -1 as often as there are changes when the signs of odd powers are turned",
            "times 0 -1 1 = 0", "set 0 +++++++++", "times 0 -1 1 = 8", "set 0 +-+-+-+-+", "times 0 -1 1 = 0",
            "set 0 +0+", "times 0 -1 1 = 0", "set 0 +00+", "times 0 -1 1 = 1", "set 0 -0", "times 0 -1 1 = 0");
        test("for a as 0 as often as there are zeros below the lowest power with a sign that is not 0",
            "times 0 0 1 = 0", "set 0 +00000000", "times 0 0 1 = 8", "times 0 0 0 = 8", "set 0 +0-00",
            "times 0 0 1 = 2", "times 0 0 0 = 2", "set 0 +0000000-", "times 0 0 1 = 0", "times 0 0 0 = 0");
    }

    private static void whole() {
        test("a row of at most 8 roots", "roots 1 2 3 4 5 6 7", "root 8 = 8", "root 9 = -9", "count 0 = 8",
            "unroot = 8", "root 9 = 8", "unroot = 9");
        test("each -9 to 9", "root -9 = 1", "root 9 = 2", "root 10 = IAE", "root -10 = IAE", "count 0 = 2");
        test("at first without any", "count 0 = 0", "count 1 = 0", "count 2 = 0", "count 3 = 0", "unroot = 99");
        test("it is the product of (x less r) for all roots r", joined("roots -9 -9 -9 -9 -9 -9 -9 -9",
            looks("coefficient ?", "43046721", "38263752", "14880348", "3306744", "459270", "40824", "2268", "72",
            "1", "IAE")));
        test("it is the product of (x less r) for all roots r", joined("roots 9 9 9 9 9 9 9 9",
            looks("coefficient ?", "43046721", "-38263752", "14880348", "-3306744", "459270", "-40824", "2268",
            "-72", "1")));
        test("it is the product of (x less r) for all roots r", joined("roots 0 0 0 0 0 0 0 0",
            looks("coefficient ?", "0", "0", "0", "0", "0", "0", "0", "0", "1")));
        test("without roots it is 1", looks("coefficient ?", "1", "0", "0", "0", "0", "0", "0", "0", "0"));
        test("without roots it is 1", joined("roots 5 -3", "unroot", "unroot",
            looks("coefficient ?", "1", "0", "0", "0", "0", "0", "0", "0", "0"), "lower 0 = 0", "text 0 = +"));
    }

    private static void inputText() {
        test("The buffer has at most 60 characters.", "fill 59 +", "append 45 = 60", "append 45 = ISE",
            "clearBuffer = 60", "append 45 = 1");
        test("one to nine signs", "load 0 = IAE", "type -", "load 0 = 0", "text 0 = -", "type -+0-+0-+0",
            "load 0 = 8", "text 0 = -+0-+0-+0", "type -+0-+0-+0-", "load 0 = IAE", "text 0 = -+0-+0-+0");
        test("one to nine signs \"+\", \"-\" or \"0\"", "type +,", "firstError = 1", "type +.", "firstError = 1",
            "type +*", "firstError = 1", "type +/", "firstError = 1", "type +1", "firstError = 1", "type +O",
            "firstError = 1", "type +-0", "firstError = 3");
        test("from the highest power down", "type +00-", "load 0 = 3", "sign 0 3 = 1", "sign 0 0 = -1");
        test("of which the first one is not \"0\"", "type 0", "firstError = 0", "load 0 = IAE", "type 0+",
            "firstError = 0", "load 0 = IAE", "type +0", "firstError = 2", "load 0 = 1");
        test("The buffer is read from left to right", "type x!", "firstError = 0", "type +!x", "firstError = 1",
            "type +0000000!", "firstError = 8");
        test("a character is a syntax error if no polynomial as a text begins with the characters before it and "
            + "this character", "firstError = 0", "type +++++++++", "firstError = 9", "type ++++++++++",
            "firstError = 9", "fill 50 0", "firstError = 9", "clearBuffer = 60");
    }

    private static void snapshots() {
        test("There are two slots", "keep 0 = 0", "set 0 +0", "keep 1 = 1", "set 0 +00", "goBack 0 = 0",
            "text 0 = +", "goBack 1 = 1", "text 0 = +0", "keep 2 = IAE", "keep -1 = IAE");
        String all = "a snapshot is all but the buffer, the slots and the saved states";
        test(all, "set 0 +-+-+-+-+", "set 4 -0000000-", "keep 0 = 16", "put 0 8 0", "copy 1 4", "set 1 -", "set 2 -",
            "set 3 -", "goBack 0 = 16", "texts = +-+-+-+-+ + + + -0000000-");
        test(all, "roots -9 1 2 3 4 5 6 9", "keep 1 = 0", "unroot = 9", "unroot = 6", "root 7 = 7", "goBack 1 = 0",
            "count 0 = 8", "unroot = 9", "unroot = 6", "unroot = 5", "unroot = 4");
        test(all, "set 0 ++", "divide 0 -1 = 0", "unroot = 99", "keep 0 = 0", "set 0 ++", "divide 0 -1 = 0",
            "unroot = 99", "unroot = 99", "count 4 = 2", "count 5 = 3", "goBack 0 = 0", "count 4 = 1", "count 5 = 1");
        test(all, "type +x", "keep 0 = 0", "type +-0y", "goBack 0 = 0", "firstError = 3", "clearBuffer = 4",
            "goBack 0 = 0", "clearBuffer = 0");
        test(all, "keep 0 = 0", "set 0 +0", "keep 1 = 1", "goBack 0 = 0", "goBack 1 = 1", "text 0 = +0");
        test(all, "root 1", "keep 0 = 0", "root 2", "root 3", "count 7 = 3", "goBack 0 = 0", "count 7 = 4",
            "undo = 3", "count 0 = 3", "undo = 2", "count 0 = 2", "undo = 1", "undo = 0", "count 0 = 0");
        test("There are two slots; a snapshot is all", "keep 0 = 0", "set 0 +0", "goBack 0 = 0", "put 0 3 1 = 3",
            "goBack 0 = 0", "text 0 = +");
    }

    private static void savedStates() {
        String saves = "Each method that is marked \"undoable\" and does not throw an exception saves the state from "
            + "before it";
        test(saves, "put 0 8 1 = 8", "count 7 = 1", "undo = 0", "text 0 = +");
        test(saves, "set 0 -0", "copy 0 1 = 1", "count 7 = 2", "undo = 1", "text 1 = +");
        test(saves, "set 0 +0", "divide 0 0 = 0", "count 7 = 2", "undo = 1", "text 0 = +0");
        test(saves, "root 3 = 1", "count 7 = 1", "undo = 0", "count 0 = 0");
        test(saves, "root 3 = 1", "unroot = 3", "count 7 = 2", "undo = 1", "count 0 = 1", "coefficient 0 = -3");
        test(saves, "root 3 = 1", "lower 2 = 1", "count 7 = 2", "undo = 1", "text 2 = +");
        test(saves, "type -+", "load 2 = 1", "count 7 = 1", "undo = 0", "text 2 = +");
        test(saves, "keep 0 = 0", "put 3 2 -1 = 2", "goBack 0 = 0", "count 7 = 2", "undo = 1", "text 3 = -0+");
        test("does not throw an exception", "put 5 0 0 = IOOBE", "put 0 9 0 = IAE", "copy 0 5 = IOOBE",
            "divide 5 0 = IOOBE", "divide 0 2 = IAE", "root 10 = IAE", "lower 5 = IOOBE", "load 5 = IOOBE",
            "load 0 = IAE", "goBack 2 = IAE", "goBack 0 = ISE", "count 7 = 0");
        test("that is marked \"undoable\"", "append 43 = 1", "firstError = 1", "clearBuffer = 1", "keep 0 = 0",
            "undo = ISE", "of 0 0 = 0", "digest", "count 7 = 0");
        String nothing = "(also if it changes nothing, or is refused)";
        test(nothing, "put 0 0 1 = 0", "count 7 = 1", "put 0 8 0 = 0", "count 7 = 2", "copy 0 1 = 0", "count 7 = 3",
            "copy 2 2 = 0", "count 7 = 4", "lower 3 = 0", "count 7 = 5", "type +", "load 4 = 0", "count 7 = 6",
            "undo = 5");
        test(nothing, "keep 0 = 0", "goBack 0 = 0", "count 7 = 1", "undo = 0");
        test(nothing, "put 0 0 0 = -9", "count 7 = 1", "undo = 0", "count 5 = 0");
        test(nothing, "divide 0 1 = -9", "count 7 = 1", "undo = 0", "count 5 = 0");
        test(nothing, "unroot = 99", "count 7 = 1", "undo = 0", "count 5 = 0");
        test(nothing, "roots 1 1 1 1 1 1 1 1", "undo = 5", "undo = 4", "root 1", "root 1", "count 7 = 6",
            "undo = 5", "root 2 = 8", "undo = 5", "root 2 = 8", "root 3 = -9", "count 7 = 6", "undo = 5",
            "count 5 = 0", "count 0 = 8");
        test("all, also what is counted so far", "set 0 +00", "divide 0 0 = 1", "divide 0 1 = -9", "divide 0 0 = 0",
            "count 4 = 2", "count 5 = 1", "undo = 3", "count 4 = 1", "count 5 = 1", "undo = 2", "count 5 = 0",
            "undo = 1", "count 4 = 0");
        test("but the buffer, the slots and the saved states", "put 0 1 1 = 1", "keep 1 = 1", "type -0x", "undo = 0",
            "firstError = 2", "clearBuffer = 3", "goBack 1 = 1", "goBack 0 = ISE", "count 7 = 1");
        test("At most 6 states are saved", joined(repeated(5, "unroot = 99"), "count 7 = 5", "unroot = 99",
            "count 7 = 6", "unroot = 99", "count 7 = 6", "undo = 5"));
        test("the oldest one is dropped first", joined("roots 1 2 3 4 5 6 7", "undo = 5", "count 0 = 6", "undo = 4",
            "count 0 = 5", "undo = 3", "count 0 = 4", "undo = 2", "count 0 = 3", "undo = 1", "count 0 = 2",
            "undo = 0", "count 0 = 1", "coefficient 0 = -1", "undo = ISE"));
        test("the oldest one is dropped first", joined(repeated(40, "unroot = 99"), "undo = 5", "count 5 = 39",
            "undo = 4", "count 5 = 38", "undo = 3", "undo = 2", "undo = 1", "undo = 0", "count 5 = 34",
            "undo = ISE"));
    }

    private static void exceptions() {
        for (String call : new String[] {"put 5 0 1 = IOOBE", "put 0 9 1 = IAE", "put 0 0 2 = IAE",
            "copy 5 0 = IOOBE", "copy 0 5 = IOOBE", "divide 5 0 = IOOBE", "divide 0 2 = IAE", "root 10 = IAE",
            "lower 5 = IOOBE", "append 32 = IAE", "append 43 = ISE", "load 5 = IOOBE", "load 0 = IAE", "keep 2 = IAE",
            "goBack 2 = IAE", "sign 5 0 = IOOBE", "sign 0 9 = IAE", "of 5 0 = IOOBE", "of 0 4 = IAE",
            "isRoot 5 0 = IOOBE", "isRoot 0 2 = IAE", "times 5 0 0 = IOOBE", "times 0 2 0 = IAE", "times 0 0 2 = IAE",
            "quotients 5 0 = IOOBE", "quotients 0 2 = IAE", "best 5 0 = IOOBE", "best 0 2 = IAE", "many 5 0 0 = IOOBE",
            "many 0 0 2 = IAE", "isIn 5 0 0 0 = IOOBE", "isIn 0 0 0 2 = IAE", "coefficient 9 = IAE", "count 8 = IAE",
            "takenShare 5 = IOOBE"}) {
            start("A call that throws an exception changes nothing");
            String want = everything(new SignRoots());
            String got = everything(new SignRoots(), call);
            if (!got.equals(want)) {
                wrongStep("what stands after " + call, got, want);
            }
        }
        test("A call that throws an exception changes nothing", "goBack 0 = ISE", "goBack 1 = ISE", "undo = ISE",
            "count 5 = 0", "count 7 = 0", "texts = + + + + +");
        test("(the buffer stays as it is, too)", "type +x", "load 0 = IAE", "firstError = 1", "load 5 = IOOBE",
            "append 32 = IAE", "append 127 = IAE", "clearBuffer = 2");
        test("(the buffer stays as it is, too)", "type +0", "load 5 = IOOBE", "load -1 = IOOBE", "load 4 = 1",
            "clearBuffer = 0");
        test("(the buffer stays as it is, too)", "fill 60 -", "append 43 = ISE", "load 0 = IAE", "firstError = 9",
            "clearBuffer = 60");
        firstNamed();
        start("`NONE = -9`");
        if (SignRoots.NONE != -9) {
            wrongStep("NONE", SignRoots.NONE, -9);
        }
    }

    /** All that can be seen of a full object, also of its saved states and snapshots. */
    private static String everything(SignRoots x, String... calls) {
        run(x, "set 0 +-+-+-+-+", "set 1 ++--", "roots 1 -2 3 -4 5 -6 7 -8", "keep 0", "divide 0 1", "keep 1",
            "put 2 0 0", "lower 3", "unroot", "root 9", "root 8", "put 4 3 -1", "fill 60 +");
        run(x, calls);
        StringBuilder seen = new StringBuilder("" + x.digest());
        for (int left = 6; left > 0 && x.count(7) == left; left--) {
            seen.append(" undo ").append(x.undo()).append(' ').append(x.digest());
        }
        for (int slot = 0; slot < 2; slot++) {
            seen.append(" slot ").append(x.goBack(slot)).append(' ').append(x.digest());
        }
        return seen.toString();
    }

    private static void firstNamed() {
        String first = "If several exceptions apply, the one that is named first in the throws clause is thrown.";
        test(first, "put 5 9 1 = IOOBE", "put 5 0 2 = IOOBE", "put -1 -1 -2 = IOOBE", "put MIN MAX MAX = IOOBE");
        test(first, "divide 5 2 = IOOBE", "divide -1 -2 = IOOBE", "divide MAX MIN = IOOBE");
        test(first, "fill 60 +", "append 32 = IAE", "append 127 = IAE", "append MIN = IAE", "append 43 = ISE");
        test(first, "load 5 = IOOBE", "load -1 = IOOBE", "type x", "load MAX = IOOBE", "load 0 = IAE");
        test(first, "goBack 2 = IAE", "goBack -1 = IAE", "goBack MIN = IAE", "goBack 1 = ISE");
        test(first, "sign 5 9 = IOOBE", "sign -1 -1 = IOOBE", "sign MIN MAX = IOOBE");
        test(first, "of 5 4 = IOOBE", "of -1 -1 = IOOBE", "of MAX MIN = IOOBE");
        test(first, "isRoot 5 2 = IOOBE", "isRoot -1 -2 = IOOBE", "isRoot MAX MIN = IOOBE");
        test(first, "times 5 2 0 = IOOBE", "times 5 0 2 = IOOBE", "times -1 -2 -1 = IOOBE");
        test(first, "quotients 5 2 = IOOBE", "quotients -1 -2 = IOOBE", "quotients MIN MAX = IOOBE");
        test(first, "best 5 2 = IOOBE", "best -1 -2 = IOOBE", "best MIN MAX = IOOBE");
        test(first, "many 5 0 2 = IOOBE", "many 0 5 2 = IOOBE", "many -1 0 -1 = IOOBE", "many 0 -1 -1 = IOOBE");
        test(first, "isIn 5 0 0 2 = IOOBE", "isIn 0 5 0 2 = IOOBE", "isIn 0 0 5 2 = IOOBE", "isIn -1 0 0 -1 = IOOBE",
            "isIn 0 -1 0 -1 = IOOBE", "isIn 0 0 -1 MIN = IOOBE");
    }

    // ---- the promises that change something

    private static void changers() {
        part("Promise 1: A new object");
        newObject();
        part("Promise 2: put");
        put();
        part("Promise 3: copy");
        copy();
        part("Promise 4: divide");
        divide();
        part("Promise 5: root");
        root();
        part("Promise 6: unroot");
        unroot();
        part("Promise 7: lower");
        lower();
    }

    private static void newObject() {
        String told = "`SignRoots()`: Creates polynomials that are 1";
        test(told, joined("texts = + + + + +", looks("of ? 0", "0", "0", "0", "0", "0")));
        test("without whole roots", "count 0 = 0", "unroot = 99");
        test("with empty slots", "goBack 0 = ISE", "goBack 1 = ISE");
        test("and an empty buffer", "firstError = 0", "load 0 = IAE", "clearBuffer = 0");
        test(told, "undo = ISE", "count 7 = 0", "count 4 = 0", "count 5 = 0");
    }

    private static void put() {
        test("Changes a sign of a polynomial", "put 0 0 -1 = 0", "texts = - + + + +", "put 4 8 -1 = 8",
            "texts = - + + + -0000000+");
        test("its degree becomes that of its highest power with a sign that is not 0", "put 1 8 -1 = 8",
            "put 1 1 1 = 8", "put 1 8 0 = 1", "put 1 1 0 = 0", "put 1 7 1 = 7", "put 1 0 0 = 7", "text 1 = +0000000");
        test("Undoable, also if it is refused.", "put 2 0 0 = -9", "count 7 = 1", "put 2 1 1 = 1", "count 7 = 2",
            "undo = 1", "text 2 = +", "count 5 = 1", "undo = 0", "count 5 = 0");
        test("- `number`: 0 to 4: which polynomial", "put 0 1 1 = 1", "put 1 2 1 = 2", "put 2 3 -1 = 3",
            "put 3 4 1 = 4", "put 4 5 -1 = 5", "texts = ++ +0+ -00+ +000+ -0000+");
        test("- `power`: 0 to 8", "put 0 0 -1 = 0", "put 0 8 1 = 8", "put 0 7 -1 = 8", "text 0 = +-000000-");
        test("- `sign`: -1, 0 or 1", "put 0 1 -1 = 1", "put 0 0 0 = 1", "put 0 2 1 = 2", "text 0 = +-0");
        String refusal = "NONE if it is refused, as all signs would be 0.";
        test(refusal, "put 0 0 0 = -9", "text 0 = +", "count 5 = 1", "set 0 -", "put 0 0 0 = -9", "text 0 = -",
            "count 5 = 2");
        test(refusal, "set 0 -00000000", "put 0 8 0 = -9", "text 0 = -00000000", "put 0 4 1 = 8", "put 0 8 0 = 4",
            "put 0 4 0 = -9", "text 0 = +0000");
        test(refusal, "put 0 8 0 = 0", "put 0 1 0 = 0", "count 5 = 0", "set 0 +0", "put 0 0 0 = 1", "count 5 = 0",
            "put 0 1 0 = -9", "count 5 = 1");
        noSuchPolynomial("put ? 0 1", "put ? 8 0");
        String range = "Throws `IllegalArgumentException` if power or sign is out of range";
        refused(range, "put 0 ? 1", "-1 9 " + FAR, "IAE");
        refused(range, "put 4 ? 0", "-1 9 " + FAR, "IAE");
        refused(range, "put 0 0 ?", "-2 2 " + FAR, "IAE");
        refused(range, "put 4 8 ?", "-2 2 " + FAR, "IAE");
    }

    private static void copy() {
        test("Copies a polynomial in place of another one.", "set 0 +-0-0-0-+", "copy 0 4 = 8",
            "texts = +-0-0-0-+ + + + +-0-0-0-+", "put 0 8 0 = 7", "text 4 = +-0-0-0-+", "copy 3 4 = 0",
            "text 4 = +");
        test("Undoable.", "set 2 -", "copy 2 3 = 0", "count 7 = 2", "undo = 1", "text 3 = +");
        test("Undoable.", "set 2 -", "copy 2 2 = 0", "count 7 = 2", "undo = 1", "text 2 = -");
        test("- `from`: 0 to 4", "set 4 -+", "set 0 -0+", "copy 4 1 = 1", "copy 0 2 = 2", "texts = -0+ -+ -0+ + -+");
        test("- `to`: 0 to 4", "set 1 -+", "set 2 -0+", "copy 1 0 = 1", "copy 2 4 = 2", "texts = -+ -+ -0+ + -0+");
        test("Returns the degree.", "copy 0 0 = 0", "copy 0 1 = 0", "set 0 +00000000", "copy 0 1 = 8",
            "copy 0 0 = 8", "copy 2 0 = 0");
        noSuchPolynomial("copy ? 0", "copy 0 ?", "copy ? ?");
    }

    private static void divide() {
        test("Puts the best quotient of a polynomial in its place.", "set 4 ++++", "divide 4 -1 = 2",
            "texts = + + + + +++", "set 0 ++0++", "divide 0 -1 = 3", "texts = ++-+ + + + +++");
        test("Undoable, also if it is refused.", "divide 0 0 = -9", "count 7 = 1", "undo = 0", "count 5 = 0",
            "set 0 +-", "divide 0 1 = 0", "count 7 = 2", "undo = 1", "text 0 = +-", "count 4 = 0");
        test("- `number`: 0 to 4", "set 0 +-", "set 4 +-+", "divide 0 1 = 0", "divide 4 1 = 1",
            "texts = + + + + +-");
        test("- `root`: -1, 0 or 1", "set 0 ++", "divide 0 -1 = 0", "set 1 -0", "divide 1 0 = 0", "set 2 -+",
            "divide 2 1 = 0", "texts = + - - + +", "count 4 = 3");
        String told = "Returns its degree then; NONE if it is refused, as there is no quotient.";
        test(told, "set 0 +00000000", "divide 0 0 = 7", "divide 0 0 = 6", "divide 0 0 = 5", "divide 0 0 = 4",
            "divide 0 0 = 3", "divide 0 0 = 2", "divide 0 0 = 1", "divide 0 0 = 0", "divide 0 0 = -9", "text 0 = +",
            "count 4 = 8", "count 5 = 1");
        test(told, "set 0 +-+-+-+-+", "divide 0 1 = 7", "divide 0 1 = 6", "divide 0 1 = 5", "divide 0 1 = 4",
            "divide 0 1 = 3", "divide 0 1 = 2", "divide 0 1 = 1", "divide 0 1 = 0", "divide 0 1 = -9");
        test(told, "set 0 +++++++++", "divide 0 -1 = 7", "divide 0 -1 = 6", "divide 0 -1 = 5", "divide 0 -1 = 4",
            "divide 0 -1 = 3", "divide 0 -1 = 2", "divide 0 -1 = 1", "divide 0 -1 = 0", "divide 0 -1 = -9");
        test(told, "set 0 +++++++++", "divide 0 1 = -9", "divide 0 0 = -9", "text 0 = +++++++++", "set 1 +-+",
            "divide 1 -1 = -9", "divide 1 0 = -9", "text 1 = +-+", "count 5 = 4", "count 4 = 0");
        noSuchPolynomial("divide ? 0", "divide ? 1");
        refused("Throws `IllegalArgumentException` if root is out of range", "divide 0 ?", "-2 2 " + FAR, "IAE");
        refused("Throws `IllegalArgumentException` if root is out of range", "divide 4 ?", "-2 2 " + FAR, "IAE",
            "set 4 +-");
    }

    private static void root() {
        test("Adds a root to the whole polynomial.", "root 4 = 1", "root -2 = 2", "coefficient 0 = -8",
            "coefficient 1 = -2", "coefficient 2 = 1", "unroot = -2", "unroot = 4");
        test("Undoable, also if it is refused.", "roots 1 2 3 4 5 6 7 8", "root 9 = -9", "count 7 = 6", "undo = 5",
            "count 5 = 0", "count 0 = 8", "undo = 4", "count 0 = 7");
        test("- `root`: -9 to 9", "root -9 = 1", "root 9 = 2", "root 0 = 3", "unroot = 0", "unroot = 9",
            "unroot = -9");
        test("Returns its degree then; NONE if it is refused, as there are 8.", "root 1 = 1", "root 1 = 2",
            "root 1 = 3", "root 1 = 4", "root 1 = 5", "root 1 = 6", "root 1 = 7", "root 1 = 8", "root 2 = -9",
            "root 2 = -9", "count 0 = 8", "count 5 = 2", "coefficient 8 = 1", "unroot = 1");
        String range = "Throws `IllegalArgumentException` if root is out of range";
        refused(range, "root ?", "-10 10 " + FAR, "IAE");
        refused(range, "root ?", "-10 10 " + FAR, "IAE", "roots 1 2 3 4 5 6 7 8");
    }

    private static void unroot() {
        test("Takes the last root of the whole polynomial away.", "roots 3 -5", "unroot = -5", "coefficient 0 = -3",
            "coefficient 1 = 1", "coefficient 2 = 0");
        test("Undoable, also if it is refused.", "unroot = 99", "count 7 = 1", "undo = 0", "count 5 = 0",
            "root 7 = 1", "unroot = 7", "count 7 = 2", "undo = 1", "count 0 = 1");
        test("Returns the root; 99 if it is refused, as there is none.", "unroot = 99", "unroot = 99", "count 5 = 2",
            "count 0 = 0", "root 9 = 1", "unroot = 9", "unroot = 99", "count 5 = 3");
        test("Returns the root; 99 if it is refused, as there is none.", "roots 1 2 3 4 5 6 7 -9", "unroot = -9",
            "unroot = 7", "count 0 = 6", "root 0 = 7", "unroot = 0", "unroot = 6");
    }

    private static void lower() {
        test("Puts the signs of the whole polynomial in place of a polynomial.", "roots 1 -1 0", "lower 0 = 3",
            "text 0 = +0-0", "coefficient 1 = -1", "count 0 = 3", "texts = +0-0 + + + +");
        test("Puts the signs of the whole polynomial in place of a polynomial.", "roots 9 9 9 9 9 9 9 9",
            "lower 0 = 8", "text 0 = +-+-+-+-+", "roots 0", "lower 1 = 8", "text 1 = +-+-+-+-+");
        test("Puts the signs of the whole polynomial in place of a polynomial.", "set 2 -+-+-+-+-", "lower 2 = 0",
            "text 2 = +");
        test("Undoable.", "lower 0 = 0", "count 7 = 1", "root 0 = 1", "lower 0 = 1", "count 7 = 3", "undo = 2",
            "text 0 = +");
        test("- `number`: 0 to 4", "roots -2", "lower 0 = 1", "lower 4 = 1", "texts = ++ + + + ++");
        test("Returns its degree.", "lower 0 = 0", "roots 0 0 0 0 0 0 0", "lower 0 = 7", "root 0 = 8",
            "lower 0 = 8", "text 0 = +00000000");
        noSuchPolynomial("lower ?");
    }

    // ---- the promises of texts and snapshots

    private static void texts() {
        part("Promise 8: append");
        append();
        part("Promise 9: clearBuffer");
        clearBuffer();
        part("Promise 10: firstError");
        firstError();
        part("Promise 11: load");
        load();
        part("Promise 12: keep");
        keep();
        part("Promise 13: goBack");
        goBack();
        part("Promise 14: undo");
        undo();
    }

    private static void append() {
        test("Appends a character to the buffer.", "append 43 = 1", "append 48 = 2", "load 1 = 1", "text 1 = +0");
        test("Appends a character to the buffer.", "append 33 = 1", "append 126 = 2", "count 7 = 0", "undo = ISE");
        test("33 to 126", "append 33 = 1", "append 126 = 2", "append 34 = 3", "append 125 = 4");
        test("Returns the new length of the buffer.", joined("append 33 = 1", "fill 57 +", "append 45 = 59",
            "append 45 = 60", "append 45 = ISE", "clearBuffer = 60", "append 45 = 1"));
        refused("Throws `IllegalArgumentException` if code is not 33 to 126", "append ?",
            "32 127 MIN -1 0 31 128 299 65569 MAX", "IAE");
        refused("Throws `IllegalStateException` if the buffer has 60 characters", "append ?", "33 43 45 48 126",
            "ISE", "fill 60 0");
        test("Throws `IllegalStateException` if the buffer has 60 characters", "fill 59 +", "append 126 = 60",
            "append 126 = ISE", "append 126 = ISE", "clearBuffer = 60", "fill 60 -", "append 43 = ISE");
    }

    private static void clearBuffer() {
        test("Clears the buffer.", "type +-", "clearBuffer = 2", "firstError = 0", "load 0 = IAE", "append 45 = 1",
            "load 0 = 0", "text 0 = -");
        test("Returns the length that it had.", "clearBuffer = 0", "append 43 = 1", "clearBuffer = 1", "fill 60 !",
            "clearBuffer = 60", "clearBuffer = 0");
    }

    private static void firstError() {
        String told = "Returns the index of the first character that is a syntax error; the length of the buffer if "
            + "there is none.";
        test("Finds the first syntax error of the buffer.", "type +x0y", "firstError = 1", "firstError = 1",
            "clearBuffer = 4");
        test(told, "firstError = 0", "type +", "firstError = 1", "type +-0+-0+-", "firstError = 8",
            "type +-0+-0+-0", "firstError = 9");
        test(told, "type +-0+-0+-0+", "firstError = 9", "type +-0+-0+-0x", "firstError = 9",
            "clearBuffer = 10", "fill 60 +", "firstError = 9");
        test(told, "fill 1 0", "firstError = 0", "fill 59 0", "firstError = 0", "type !", "firstError = 0",
            "type ~+", "firstError = 0", "type -0000000~", "firstError = 8");
    }

    private static void load() {
        test("Takes the polynomial of the buffer in place of one", "type -+0", "load 3 = 2", "texts = + + + -+0 +",
            "set 3 +", "text 3 = +");
        test("and clears the buffer", "type -+0", "load 3 = 2", "clearBuffer = 0", "load 3 = IAE");
        test("Undoable.", "type -", "load 0 = 0", "count 7 = 1", "undo = 0", "text 0 = +", "clearBuffer = 0");
        test("- `number`: 0 to 4", "type -0", "load 0 = 1", "type -00", "load 4 = 2", "texts = -0 + + + -00");
        test("Returns its degree.", "type -", "load 0 = 0", "type +00000000", "load 0 = 8", "type -0", "load 0 = 1");
        noSuchPolynomial("load ?");
        refused("Throws `IndexOutOfBoundsException` if there is no such polynomial", "load ?", "-1 5 " + FAR, "IOOBE",
            "type +-");
        String told = "Throws `IllegalArgumentException` if the buffer does not tell a polynomial as a text";
        refused(told, "load ?", "0 1 2 3 4", "IAE");
        for (String text : new String[] {"0", "0+", "x", "+x", "+-0+-0+-0+", "+-0+-0+-x", "x+", "+1", "+0,"}) {
            refused(told, "load ?", "0 4", "IAE", "type " + text);
        }
        refused(told, "load ?", "0 4", "IAE", "fill 60 +");
        refused(told, "load ?", "0 4", "IAE", "fill 9 0");
    }

    private static void keep() {
        test("Takes a snapshot, in place of the one in the slot.", "keep 0 = 0", "put 0 3 1 = 3", "keep 0 = 3",
            "put 0 8 1 = 8", "goBack 0 = 3", "text 0 = +00+");
        test("Takes a snapshot, in place of the one in the slot.", "keep 1 = 0", "put 0 3 1 = 3", "keep 0 = 3",
            "goBack 1 = 0", "count 7 = 2", "undo = 1", "undo = 0", "undo = ISE");
        test("- `slot`: 0 or 1", "keep 0 = 0", "goBack 1 = ISE", "goBack 0 = 0");
        test("- `slot`: 0 or 1", "keep 1 = 0", "goBack 0 = ISE", "goBack 1 = 0");
        test("Returns the degrees of all polynomials, together.", "keep 0 = 0", "put 0 8 1 = 8", "put 1 8 1 = 8",
            "put 2 8 1 = 8", "put 3 8 1 = 8", "put 4 8 1 = 8", "keep 1 = 40", "put 4 8 0", "put 0 8 0", "keep 0 = 24");
        refused("Throws `IllegalArgumentException` if slot is out of range", "keep ?", "-1 2 " + FAR, "IAE");
    }

    private static void goBack() {
        test("Goes back to a snapshot, which stays.", "put 0 2 -1 = 2", "keep 0 = 2", "put 0 8 1 = 8",
            "goBack 0 = 2", "text 0 = -0+", "put 0 7 1 = 7", "goBack 0 = 2", "text 0 = -0+");
        test("Undoable.", "keep 0 = 0", "put 0 2 -1 = 2", "goBack 0 = 0", "count 7 = 2", "undo = 1", "text 0 = -0+",
            "goBack 0 = 0", "count 7 = 2");
        test("- `slot`: 0 or 1", "keep 0 = 0", "put 0 1 1 = 1", "keep 1 = 1", "put 0 2 1 = 2", "goBack 0 = 0",
            "goBack 1 = 1");
        test("Returns the degrees of all polynomials then, together.", "keep 0 = 0", "put 0 8 1 = 8",
            "put 1 8 1 = 8", "put 2 8 1 = 8", "put 3 8 1 = 8", "put 4 8 1 = 8", "keep 1 = 40", "goBack 0 = 0",
            "goBack 1 = 40", "undo = 5", "keep 1 = 0");
        refused("Throws `IllegalArgumentException` if slot is out of range", "goBack ?", "-1 2 " + FAR, "IAE");
        refused("Throws `IllegalArgumentException` if slot is out of range", "goBack ?", "-1 2 " + FAR, "IAE",
            "keep 0", "keep 1");
        refused("Throws `IllegalStateException` if there is no snapshot in it", "goBack ?", "0 1", "ISE");
        refused("Throws `IllegalStateException` if there is no snapshot in it", "goBack ?", "0", "ISE", "keep 1",
            "goBack 1");
        refused("Throws `IllegalStateException` if there is no snapshot in it", "goBack ?", "1", "ISE", "keep 0",
            "goBack 0");
    }

    private static void undo() {
        test("Restores the latest saved state, and drops it.", "put 0 1 1 = 1", "put 0 2 1 = 2", "undo = 1",
            "text 0 = ++", "undo = 0", "text 0 = +", "undo = ISE", "text 0 = +");
        test("Restores the latest saved state, and drops it.", "roots 1 2 3 4 5 6 7 8", "undo = 5", "root 9 = 8",
            "count 7 = 6", "undo = 5", "count 0 = 7", "unroot = 7");
        test("Returns how many saved states are left.", joined("roots 1 2 3 4 5 6 7",
            looks("undo", "5", "4", "3", "2", "1", "0", "ISE", "ISE")));
        test("Returns how many saved states are left.", "root 1 = 1", "undo = 0", "count 7 = 0");
        test("Throws `IllegalStateException` if there is none", "undo = ISE", "root 1 = 1", "undo = 0", "undo = ISE",
            "count 0 = 0", "keep 0 = 0", "undo = ISE");
    }

    // ---- the promises that only look

    private static void lookers() {
        part("Promise 15: sign");
        sign();
        part("Promise 16: of");
        of();
        part("Promise 17: isRoot");
        isRoot();
        part("Promise 18: times");
        times();
        part("Promise 19: quotients");
        manyQuotients();
        part("Promise 20: best");
        best();
        part("Promise 21: many");
        many();
        part("Promise 22: isIn");
        isIn();
        part("Promise 23: coefficient");
        coefficient();
        part("Promise 24: count");
        count();
        part("Promise 25: takenShare");
        takenShare();
        part("Promise 26: digest");
        digest();
    }

    private static void sign() {
        test("Returns a sign of a polynomial.", "set 1 -0+", "sign 1 0 = 1", "sign 1 1 = 0", "sign 1 2 = -1");
        test("- `number`: 0 to 4", "set 0 -", "set 4 +0", "sign 0 0 = -1", "sign 4 0 = 0", "sign 1 0 = 1",
            "sign 4 1 = 1");
        test("- `power`: 0 to 8", "set 0 -0000000+", "sign 0 0 = 1", "sign 0 1 = 0", "sign 0 7 = 0",
            "sign 0 8 = -1");
        test("Returns the sign.", "set 0 -", "sign 0 0 = -1", "sign 0 1 = 0", "sign 0 8 = 0");
        noSuchPolynomial("sign ? 0", "sign ? 8");
        refused("Throws `IllegalArgumentException` if power is out of range", "sign 0 ?", "-1 9 " + FAR, "IAE");
        refused("Throws `IllegalArgumentException` if power is out of range", "sign 4 ?", "-1 9 " + FAR, "IAE",
            "set 4 +++++++++");
    }

    private static void of() {
        test("Returns something of a polynomial.", "set 2 +-0", "of 2 0 = 2", "of 2 1 = 2", "of 2 2 = 1",
            "of 2 3 = " + form("+-0"));
        test("- `number`: 0 to 4", "set 0 +-", "set 4 +0", "of 0 0 = 1", "of 4 0 = 1", "of 0 1 = 2", "of 4 1 = 1",
            "of 0 3 = " + form("+-"), "of 4 3 = " + form("+0"));
        test("0: its degree", "of 0 0 = 0", "set 0 +00000000", "of 0 0 = 8", "set 0 -", "of 0 0 = 0");
        test("1: powers with a sign that is not 0", "of 0 1 = 1", "set 0 +-+-+-+-+", "of 0 1 = 9",
            "set 0 -00000000", "of 0 1 = 1");
        test("2: its changes", "of 0 2 = 0", "set 0 +-+-+-+-+", "of 0 2 = 8", "set 0 ---------", "of 0 2 = 0",
            "set 0 -0000000+", "of 0 2 = 1");
        test("3: its form as one number", "of 0 3 = 9842", "set 0 -", "of 0 3 = 9840", "set 0 +++++++++",
            "of 0 3 = 19682", "set 0 ---------", "of 0 3 = 0");
        test("that of the power 0 counting 1, that of the power 1 counting 3, and so on, up to the power 8",
            "set 0 --------+", "of 0 3 = 2", "set 0 -------+-", "of 0 3 = 6", "set 0 -------0-", "of 0 3 = 3",
            "set 0 +--------", "of 0 3 = 13122", "set 0 -+-------", "of 0 3 = 4374");
        test("Returns the number.", "set 0 -0-", "of 0 0 = 2", "of 0 1 = 2", "of 0 2 = 0",
            "of 0 3 = " + (9841 - 1 - 9));
        noSuchPolynomial("of ? 0", "of ? 3");
        refused("Throws `IllegalArgumentException` if what is not 0 to 3", "of 0 ?", "-1 4 " + FAR, "IAE");
    }

    private static void isRoot() {
        test("Tells whether a sign is a root.", "set 0 +0-", "isRoot 0 -1 = 1", "isRoot 0 0 = 0", "isRoot 0 1 = 1");
        test("- `number`: 0 to 4", "set 0 +-", "set 4 +0", "isRoot 0 1 = 1", "isRoot 0 0 = 0", "isRoot 4 0 = 1",
            "isRoot 4 1 = 0", "isRoot 3 0 = 0");
        test("- `root`: -1, 0 or 1", "set 0 ++", "isRoot 0 -1 = 1", "isRoot 0 0 = 0", "isRoot 0 1 = 0",
            "set 0 -0", "isRoot 0 -1 = 0", "isRoot 0 0 = 1", "isRoot 0 1 = 0");
        test("Returns 1 if it is, otherwise 0.", "isRoot 0 -1 = 0", "isRoot 0 0 = 0", "isRoot 0 1 = 0",
            "set 0 +-0000000", "isRoot 0 -1 = 0", "isRoot 0 0 = 1", "isRoot 0 1 = 1");
        noSuchPolynomial("isRoot ? 0", "isRoot ? 1");
        refused("Throws `IllegalArgumentException` if root is out of range", "isRoot 0 ?", "-2 2 " + FAR, "IAE");
    }

    private static void times() {
        test("Tells how often a sign can be taken out.", "set 0 -++--+", "times 0 1 0 = 3", "times 0 1 1 = 3",
            "times 0 -1 0 = 2", "times 0 -1 1 = 2");
        test("- `number`: 0 to 4", "set 0 +-", "set 4 +-+", "times 0 1 0 = 1", "times 4 1 0 = 2", "times 0 1 1 = 1",
            "times 4 1 1 = 2", "times 3 1 0 = 0");
        test("- `root`: -1, 0 or 1", "set 0 +++0", "times 0 -1 0 = 2", "times 0 0 0 = 1", "times 0 1 0 = 0",
            "times 0 -1 1 = 2", "times 0 0 1 = 1", "times 0 1 1 = 0");
        test("0: told by trying all quotients", "set 0 +-+-+-+-+", "times 0 1 0 = 8", "times 0 -1 0 = 0",
            "set 0 +++++++++", "times 0 -1 0 = 8", "times 0 1 0 = 0", "set 0 -00000000", "times 0 0 0 = 8",
            "set 0 -", "times 0 0 0 = 0", "times 0 -1 0 = 0", "times 0 1 0 = 0");
        test("1: told by counting changes, or zeros", "set 0 +-+-+-+-+", "times 0 1 1 = 8", "times 0 -1 1 = 0",
            "set 0 +++++++++", "times 0 -1 1 = 8", "times 0 1 1 = 0", "set 0 -00000000", "times 0 0 1 = 8",
            "set 0 -", "times 0 0 1 = 0", "times 0 -1 1 = 0", "times 0 1 1 = 0");
        test("Returns how often (the same for both).", "set 0 ++++----+", "times 0 1 0 = 2", "times 0 1 1 = 2",
            "times 0 -1 0 = 6", "times 0 -1 1 = 6", "set 0 +---++++0", "times 0 -1 0 = 5", "times 0 -1 1 = 5",
            "times 0 0 0 = 1", "times 0 0 1 = 1");
        noSuchPolynomial("times ? 0 0", "times ? 1 1");
        String told = "Throws `IllegalArgumentException` if root is out of range, or what is not 0 or 1";
        refused(told, "times 0 ? 0", "-2 2 " + FAR, "IAE");
        refused(told, "times 0 ? 1", "-2 2 " + FAR, "IAE");
        refused(told, "times 0 0 ?", "-1 2 " + FAR, "IAE");
        refused(told, "times 4 1 ?", "-1 2 " + FAR, "IAE");
    }

    private static void manyQuotients() {
        test("Tells how many quotients there are.", "set 0 -++-", "quotients 0 1 = 3", "quotients 0 -1 = 1");
        test("- `number`: 0 to 4", "set 0 +-", "set 4 -++-", "quotients 0 1 = 1", "quotients 4 1 = 3",
            "quotients 3 1 = 0");
        test("- `root`: -1, 0 or 1", "set 0 +00", "quotients 0 -1 = 0", "quotients 0 0 = 1", "quotients 0 1 = 0",
            "set 0 --++", "quotients 0 -1 = 3", "quotients 0 0 = 0", "quotients 0 1 = 1");
        test("Returns how many.", "quotients 0 -1 = 0", "quotients 0 0 = 0", "quotients 0 1 = 0", "set 0 -------++",
            "quotients 0 -1 = 85", "quotients 0 0 = 0", "quotients 0 1 = 1", "set 0 +00000000", "quotients 0 0 = 1");
        noSuchPolynomial("quotients ? 0", "quotients ? 1");
        refused("Throws `IllegalArgumentException` if root is out of range", "quotients 0 ?", "-2 2 " + FAR, "IAE");
    }

    private static void best() {
        test("Tells the best quotient.", "set 0 ++++", "best 0 -1 = " + form("+++"), "text 0 = ++++", "count 4 = 0");
        test("- `number`: 0 to 4", "set 0 +-", "set 4 +0", "best 0 1 = " + form("+"), "best 4 0 = " + form("+"),
            "best 0 0 = -9", "best 4 1 = -9", "best 3 1 = -9");
        test("- `root`: -1, 0 or 1", "set 0 +0-0", "best 0 -1 = " + form("+-0"), "best 0 0 = " + form("+0-"),
            "best 0 1 = " + form("++0"));
        String told = "Returns its form as one number, as for of(); NONE if there is none.";
        test(told, "set 0 +-+-+-+-+", "best 0 1 = " + form("+-+-+-+-"), "best 0 -1 = -9", "best 0 0 = -9",
            "count 5 = 0");
        test(told, "set 0 +--------", "best 0 1 = " + form("++++++++"), "set 0 -0000000+",
            "best 0 1 = " + form("--------"), "divide 0 1 = 7", "of 0 3 = " + form("--------"));
        test(told, "best 0 -1 = -9", "best 0 0 = -9", "best 0 1 = -9", "count 5 = 0", "count 7 = 0");
        noSuchPolynomial("best ? 0", "best ? 1");
        refused("Throws `IllegalArgumentException` if root is out of range", "best 0 ?", "-2 2 " + FAR, "IAE");
    }

    private static void many() {
        test("Tells how many rows of signs a sum or a product has.", "set 0 +-", "set 1 ++", "many 0 1 0 = 3",
            "many 0 1 1 = 3", "many 1 1 0 = 1", "many 1 1 1 = 1");
        test("- `first`: 0 to 4", "set 0 -", "set 4 -+", "many 0 1 0 = 3", "many 4 1 0 = 1", "many 4 4 0 = 1");
        test("- `second`: 0 to 4", "set 0 -", "set 4 -+", "many 1 0 0 = 3", "many 1 4 0 = 1", "many 0 4 0 = 3");
        test("0: their sum; 1: their product", "set 0 +-", "set 1 -", "many 0 1 0 = 1", "many 0 1 1 = 1",
            "set 1 +", "many 0 1 0 = 3", "many 0 1 1 = 1");
        String told = "Returns how many; NONE for 1 if the degrees are above 8 together.";
        test(told, "set 0 +00000000", "many 0 1 1 = 1", "set 1 +0", "many 0 1 1 = -9", "many 1 0 1 = -9",
            "many 0 0 1 = -9", "many 0 0 0 = 1", "many 0 1 0 = 1", "count 5 = 0");
        test(told, "set 0 +0000", "set 1 +0000", "many 0 1 1 = 1", "set 1 +00000", "many 0 1 1 = -9",
            "many 1 0 1 = -9", "many 0 1 0 = 1");
        test(told, "set 0 ++++++++", "set 1 +-", "many 0 1 1 = 2187", "many 1 0 1 = 2187", "set 1 +-+",
            "many 0 1 1 = -9", "many 1 1 1 = 1");
        test(told, "set 0 +++++++++", "set 1 ---------", "many 0 1 0 = 19683", "many 0 0 0 = 1", "many 0 1 1 = -9");
        noSuchPolynomial("many ? 0 0", "many 0 ? 0", "many ? 0 1", "many 0 ? 1");
        refused("Throws `IllegalArgumentException` if what is not 0 or 1", "many 0 0 ?", "-1 2 " + FAR, "IAE");
        refused("Throws `IllegalArgumentException` if what is not 0 or 1", "many 4 4 ?", "-1 2 " + FAR, "IAE",
            "set 4 +++++++++");
    }

    private static void isIn() {
        test("Tells whether a polynomial is in the sum or the product of two other ones.", "set 0 +-", "set 1 ++",
            "set 2 +0", "isIn 2 0 1 0 = 1", "isIn 2 0 1 1 = 0", "set 2 +0-", "isIn 2 0 1 0 = 0", "isIn 2 0 1 1 = 1");
        test("- `number`: 0 to 4: which one", "set 0 -", "set 4 ++", "isIn 0 1 1 0 = 0", "isIn 4 1 1 0 = 0",
            "isIn 3 1 1 0 = 1", "isIn 0 0 0 0 = 1", "isIn 4 4 4 0 = 1", "isIn 4 4 1 1 = 1", "isIn 0 0 1 1 = 1");
        test("- `first`: 0 to 4", "set 0 -", "set 4 -+", "isIn 1 0 1 1 = 0", "isIn 0 0 1 1 = 1", "isIn 4 4 1 1 = 1",
            "isIn 1 4 1 1 = 0");
        test("- `second`: 0 to 4", "set 0 -", "set 4 -+", "isIn 1 1 0 1 = 0", "isIn 0 1 0 1 = 1", "isIn 4 1 4 1 = 1",
            "isIn 1 1 4 1 = 0");
        test("0: their sum; 1: their product", "set 0 -", "set 2 +", "isIn 2 0 0 0 = 0", "isIn 2 0 0 1 = 1",
            "isIn 0 0 0 0 = 1", "isIn 0 0 0 1 = 0");
        String told = "Returns 1 if it is, otherwise 0 (also for 1, if the degrees are above 8 together).";
        test(told, "set 0 +00000000", "isIn 0 0 1 1 = 1", "isIn 0 1 0 1 = 1", "set 1 +0", "isIn 0 0 1 1 = 0",
            "isIn 0 1 0 1 = 0", "isIn 0 0 0 1 = 0", "isIn 0 0 1 0 = 0", "isIn 0 0 0 0 = 1");
        test(told, "set 0 +0000", "set 1 +00000000", "isIn 1 0 0 1 = 1", "set 0 +00000", "set 2 +000",
            "isIn 1 0 2 1 = 1", "set 2 +0000", "isIn 1 0 2 1 = 0", "isIn 1 2 0 1 = 0", "count 5 = 0");
        // The number agrees with the product in all powers up to 8: only the degrees tell.
        test(told, "set 0 +0000000+", "set 1 ++", "set 2 +000000++", "isIn 2 0 1 1 = 0", "isIn 2 1 0 1 = 0");
        noSuchPolynomial("isIn ? 0 0 0", "isIn 0 ? 0 0", "isIn 0 0 ? 0", "isIn ? 0 0 1", "isIn 0 ? 0 1",
            "isIn 0 0 ? 1");
        refused("Throws `IllegalArgumentException` if what is not 0 or 1", "isIn 0 0 0 ?", "-1 2 " + FAR, "IAE");
    }

    private static void coefficient() {
        test("Returns a coefficient of the whole polynomial.", "roots 2 -3", "coefficient 0 = -6",
            "coefficient 1 = 1", "coefficient 2 = 1");
        test("- `power`: 0 to 8", "roots 1 1 1 1 1 1 1 1", "coefficient 0 = 1", "coefficient 7 = -8",
            "coefficient 8 = 1");
        String told = "Returns the coefficient; 0 above its degree.";
        test(told, looks("coefficient ?", "1", "0", "0", "0", "0", "0", "0", "0", "0"));
        test(told, joined("roots 9 9 9 9 9 9 9", "coefficient 7 = 1", "coefficient 8 = 0", "root 9 = 8",
            "coefficient 8 = 1", "unroot = 9", "coefficient 8 = 0", "coefficient 0 = -4782969"));
        test(told, joined("roots 5", looks("coefficient ?", "-5", "1", "0", "0", "0", "0", "0", "0", "0")));
        String range = "Throws `IllegalArgumentException` if power is out of range";
        refused(range, "coefficient ?", "-1 9 " + FAR, "IAE");
        refused(range, "coefficient ?", "-1 9 " + FAR, "IAE", "roots 1 2 3 4 5 6 7 8");
    }

    private static void count() {
        test("Returns the number.", "roots 3 -1 0 0 9", "set 0 +-", "divide 1 0 = -9", "divide 0 1 = 0", "count 0 = 5",
            "count 1 = 2", "count 2 = 1", "count 3 = 2", "count 4 = 1", "count 5 = 1", "count 6 = 0", "count 7 = 6");
        test("Returns a number.", looks("count ?", "0", "0", "0", "0", "0", "0", "0", "0", "IAE"));
        test("0: the degree of the whole polynomial", "count 0 = 0", "roots 0 0 0 0 0 0 0 0", "count 0 = 8",
            "root 1 = -9", "count 0 = 8", "unroot = 0", "count 0 = 7");
        test("1: its roots above 0, 2: below 0, 3: that are 0", "roots 9 1 -1 -9 0 0 0", "count 1 = 2",
            "count 2 = 2", "count 3 = 3", "root 2 = 8", "count 1 = 3");
        test("1: its roots above 0", "roots 1 1 1 1 1 1 1 1", "count 1 = 8", "count 2 = 0", "count 3 = 0");
        test("2: below 0", "roots -1 -1 -1 -1 -1 -1 -1 -1", "count 1 = 0", "count 2 = 8", "count 3 = 0");
        test("3: that are 0", "roots 0 0 0 0 0 0 0 0", "count 1 = 0", "count 2 = 0", "count 3 = 8", "unroot = 0",
            "count 3 = 7");
        test("4: quotients taken so far, by divide()", "count 4 = 0", "set 0 +0", "best 0 0 = " + form("+"),
            "quotients 0 0 = 1", "count 4 = 0", "divide 0 0 = 0", "count 4 = 1", "divide 0 0 = -9", "count 4 = 1",
            "undo = 2", "undo = 1", "count 4 = 0");
        test("5: what was refused so far", "count 5 = 0", "put 0 0 0 = -9", "count 5 = 1", "divide 0 0 = -9",
            "count 5 = 2", "unroot = 99", "count 5 = 3", "roots 0 0 0 0 0 0 0 0", "count 5 = 3", "root 0 = -9",
            "count 5 = 4");
        test("5: what was refused so far", "best 0 0 = -9", "set 0 +00000000", "many 0 0 1 = -9", "isIn 0 0 0 1 = 0",
            "put 5 0 0 = IOOBE", "root 10 = IAE", "undo = 0", "undo = ISE", "load 0 = IAE", "count 5 = 0");
        test("6: polynomials that have 1 as a root", "count 6 = 0", "set 0 +-", "count 6 = 1", "set 4 +-0",
            "count 6 = 2", "copy 0 1", "copy 0 2", "copy 0 3", "count 6 = 5", "set 4 ++", "count 6 = 4", "set 3 +0",
            "count 6 = 3");
        test("7: saved states", joined("count 7 = 0", repeated(6, "lower 0 = 0"), "count 7 = 6", "lower 0 = 0",
            "count 7 = 6", "undo = 5", "count 7 = 5"));
        refused("Throws `IllegalArgumentException` if what is not 0 to 7", "count ?", "-1 8 " + FAR, "IAE");
        refused("Throws `IllegalArgumentException` if what is not 0 to 7", "count ?", "-1 8 " + FAR, "IAE",
            "roots 1 2 3 4 5 6 7 8");
    }

    private static void takenShare() {
        test("Returns how much can be taken out of a polynomial.", "set 0 -++--+", "takenShare 0 = 1.0",
            "set 0 +00+", "takenShare 0 = " + 1.0 / 3);
        test("- `number`: 0 to 4", "set 0 +0+", "set 4 +000+0", "takenShare 0 = 0.0", "takenShare 4 = 0.2",
            "takenShare 3 = 1.0");
        String told = "Returns how often 1, -1 and 0 can be taken out, together, as a double, divided by the degree; "
            + "1.0 for the degree 0.";
        test(told, "takenShare 0 = 1.0", "set 0 -", "takenShare 0 = 1.0");
        test(told, "set 0 +-", "takenShare 0 = 1.0", "set 0 ++", "takenShare 0 = 1.0", "set 0 +0",
            "takenShare 0 = 1.0", "set 0 +0+", "takenShare 0 = 0.0", "set 0 +0000000+", "takenShare 0 = 0.0");
        test(told, "set 0 +0000000-", "takenShare 0 = 0.25", "set 0 +00000000", "takenShare 0 = 1.0",
            "set 0 +-+-+-+-+", "takenShare 0 = 1.0", "set 0 +++++++++", "takenShare 0 = 1.0", "set 0 +-0000000",
            "takenShare 0 = 1.0", "set 0 +0+000000", "takenShare 0 = 0.75", "set 0 +000000+",
            "takenShare 0 = " + 1.0 / 7);
        noSuchPolynomial("takenShare ?");
    }

    // ---- digest, whose values are those of the other calls

    private static void digest() {
        String list = "count(0) to count(7); for each polynomial its numbers 0 to 3, its signs of the powers 0 to 8, "
            + "and for the roots -1, 0 and 1, one after the other: isRoot, times with 0, then with 1, quotients and "
            + "best; then the bits of takenShare (as Double.doubleToLongBits)";
        hashed("The hash starts at 3623.", "", "0 0", "");
        hashed("Returns the hash.", "", "0 0", "", "unroot", "undo");
        hashed("For each value v of the following list, in order, the hash becomes 31 * hash + v, in long arithmetic "
            + "with overflow.", "9 9 9 9 9 9 9 9", "0 0", "", "roots 9 9 9 9 9 9 9 9");
        hashed(list, "", "0 0", "", "set 0 +-+-+-+-+", "set 1 ---------", "set 2 -00000000", "set 3 -------++",
            "set 4 ++++----+");
        hashed("count(0) to count(7)", "-9 0 9", "0 0", "", "set 0 +00", "divide 0 0", "divide 0 0", "divide 1 0",
            "roots -9 0 9");
        hashed("its numbers 0 to 3, its signs of the powers 0 to 8", "", "0 0", "", "put 4 8 -1", "put 0 0 -1");
        for (String text : new String[] {"+", "+0+", "+0-", "+00+", "+000+0", "+000+", "+00000+", "+00000+0",
            "+000000+", "+0-00+00", "+0000000-", "+0+0000", "+000000+0", "+++++++++"}) {
            hashed("then the bits of takenShare (as Double.doubleToLongBits)", "", "0 0", "", "set 2 " + text);
        }
        hashed("for each first polynomial, for each second one, many with 0, then with 1", "", "0 0", "",
            "set 0 +-+-+-+-+", "set 1 +++++", "set 2 +-+-+", "set 3 -+-+-+-+-", "set 4 +-");
        String roots = "the coefficients of the powers 0 to 8; the roots of the whole polynomial in their order";
        hashed(roots, "1 -2 3 -4 5 -6 7 -9", "0 0", "", "roots 1 -2 3 -4 5 -6 7 -9");
        hashed(roots, "2 3", "0 0", "", "roots 2 3 4", "unroot");
        hashed(roots, "3 2", "0 0", "", "roots 3 2");
        hashed(roots, "", "0 0", "", "roots 3", "unroot");
        String slots = "for each slot 1 if it has a snapshot, otherwise 0";
        hashed(slots, "", "1 0", "", "keep 0");
        hashed(slots, "", "0 1", "", "keep 1");
        hashed(slots, "", "1 1", "", "keep 1", "keep 0", "goBack 0", "undo");
        String buffer = "the length of the buffer and each of its character codes";
        hashed(buffer, "", "0 0", "+0-", "type +0-");
        hashed(buffer, "", "0 0", "!~", "type abc", "type !~");
        hashed(buffer, "", "0 0", "~".repeat(60), "fill 60 ~");
        hashed(buffer, "", "0 0", "", "fill 60 ~", "clearBuffer");
    }

    /** The roots, whether the slots are filled, and the buffer: these no call tells in their order. */
    private static void hashed(String told, String roots, String slots, String buffer, String... steps) {
        start(told);
        SignRoots x = new SignRoots();
        run(x, steps);
        String codes = "" + buffer.length();
        for (char c : buffer.toCharArray()) {
            codes += " " + (int) c;
        }
        BigInteger hash = BigInteger.valueOf(3623);
        for (String value : (values(x) + " " + roots + " " + slots + " " + codes).trim().split(" +")) {
            hash = hash.multiply(BigInteger.valueOf(31)).add(new BigInteger(value));
        }
        if (x.digest() != hash.longValue()) {
            wrongStep("the digest after " + String.join(", ", steps), x.digest(), hash.longValue());
        }
    }

    private static String values(SignRoots x) {
        StringBuilder values = new StringBuilder();
        for (int what = 0; what < 8; what++) {
            values.append(x.count(what)).append(' ');
        }
        for (int number = 0; number < 5; number++) {
            for (int what = 0; what < 4; what++) {
                values.append(x.of(number, what)).append(' ');
            }
            for (int power = 0; power < 9; power++) {
                values.append(x.sign(number, power)).append(' ');
            }
            for (int root = -1; root < 2; root++) {
                values.append(x.isRoot(number, root)).append(' ').append(x.times(number, root, 0)).append(' ')
                    .append(x.times(number, root, 1)).append(' ').append(x.quotients(number, root)).append(' ')
                    .append(x.best(number, root)).append(' ');
            }
            values.append(Double.doubleToLongBits(x.takenShare(number))).append(' ');
        }
        for (int pair = 0; pair < 25; pair++) {
            values.append(x.many(pair / 5, pair % 5, 0)).append(' ').append(x.many(pair / 5, pair % 5, 1)).append(' ');
        }
        for (int power = 0; power < 9; power++) {
            values.append(x.coefficient(power)).append(' ');
        }
        return values.toString();
    }
}
