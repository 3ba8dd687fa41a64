/**
 * Tests of the promises 1 to 26, one method for each, with answers worked out by hand (but for the
 * 85 quotients, which a script found).
 */
public final class SignRootsTest {
    private static final String NO_NUMBER = "IndexOutOfBoundsException";
    private static final String WRONG = "IllegalArgumentException";
    private static final String BAD_STATE = "IllegalStateException";
    private static final int[] WRONG_NUMBERS = {-1, 5, Integer.MIN_VALUE, Integer.MAX_VALUE};
    private static final int[] WRONG_SIGNS = {-2, 2, Integer.MIN_VALUE, Integer.MAX_VALUE};
    private static final int[] WRONG_POWERS = {-1, 9, Integer.MIN_VALUE, Integer.MAX_VALUE};
    private static final int[] WRONG_PAIRS = {-1, 2, Integer.MIN_VALUE, Integer.MAX_VALUE};

    private static int wrong = 0;
    private static String where = "";

    private interface Call {
        Object make();
    }

    public static void main(String[] args) {
        newObject();
        put();
        copy();
        divide();
        root();
        unroot();
        lower();
        append();
        clearBuffer();
        firstError();
        load();
        keep();
        goBack();
        undo();
        sign();
        of();
        isRoot();
        times();
        quotients();
        best();
        many();
        isIn();
        coefficient();
        count();
        takenShare();
        digest();
        System.out.println(wrong == 0 ? "all promises hold" : wrong + " answers are wrong");
        if (wrong != 0) {
            System.exit(1);
        }
    }

    // ---- helpers

    private static void due(String what, Object got, Object want) {
        if (!String.valueOf(got).equals(String.valueOf(want))) {
            wrong++;
            System.out.println(where + ": " + what + " is " + got + ", due is " + want);
        }
    }

    private static String outcome(Call call) {
        try {
            return String.valueOf(call.make());
        } catch (RuntimeException e) {
            return e.getClass().getSimpleName();
        }
    }

    /** The call must throw this, and change nothing that can be seen. */
    private static void refuses(SignRoots x, String what, String exception, Call call) {
        long before = x.digest();
        due(what, outcome(call), exception);
        due("digest after " + what, x.digest(), before);
    }

    private static int type(SignRoots x, String text) {
        x.clearBuffer();
        int length = 0;
        for (int i = 0; i < text.length(); i++) {
            length = x.append(text.charAt(i));
        }
        return length;
    }

    /** Puts a polynomial as a text, from the highest power down. */
    private static void set(SignRoots x, int number, String text) {
        type(x, text);
        x.load(number);
    }

    private static String text(SignRoots x, int number) {
        StringBuilder text = new StringBuilder();
        for (int power = 8; power >= 0; power--) {
            int sign = x.sign(number, power);
            if (sign != 0 || text.length() > 0) {
                text.append(sign == 1 ? '+' : sign == -1 ? '-' : '0');
            }
        }
        return text.toString();
    }

    private static SignRoots with(String... texts) {
        SignRoots x = new SignRoots();
        for (int i = 0; i < texts.length; i++) {
            set(x, i, texts[i]);
        }
        return x;
    }

    private static SignRoots withRoots(int... roots) {
        SignRoots x = new SignRoots();
        for (int root : roots) {
            x.root(root);
        }
        return x;
    }

    private static int form(String text) {
        int form = 0;
        int[] digits = {1, 1, 1, 1, 1, 1, 1, 1, 1};
        for (int i = 0; i < text.length(); i++) {
            char c = text.charAt(i);
            digits[text.length() - 1 - i] = c == '+' ? 2 : c == '-' ? 0 : 1;
        }
        for (int power = 8; power >= 0; power--) {
            form = 3 * form + digits[power];
        }
        return form;
    }

    // ---- the promises

    private static void newObject() {
        where = "1 new object";
        due("NONE", SignRoots.NONE, -9);
        SignRoots x = new SignRoots();
        for (int number = 0; number < 5; number++) {
            due("degree", x.of(number, 0), 0);
            due("sign 0", x.sign(number, 0), 1);
            for (int power = 1; power < 9; power++) {
                due("sign " + power, x.sign(number, power), 0);
            }
        }
        for (int what = 0; what < 8; what++) {
            due("count " + what, x.count(what), 0);
        }
        due("coefficient 0", x.coefficient(0), 1L);
        due("firstError", x.firstError(), 0);
        due("clearBuffer", x.clearBuffer(), 0);
        due("goBack(0)", outcome(() -> x.goBack(0)), BAD_STATE);
        due("goBack(1)", outcome(() -> x.goBack(1)), BAD_STATE);
        due("undo", outcome(() -> x.undo()), BAD_STATE);
        SignRoots other = new SignRoots();
        x.put(0, 3, 1);
        due("another object", other.of(0, 0), 0);
    }

    private static void put() {
        where = "2 put";
        SignRoots x = new SignRoots();
        due("put(0, 3, -1)", x.put(0, 3, -1), 3);
        due("put(0, 8, 1)", x.put(0, 8, 1), 8);
        due("put(0, 5, 1)", x.put(0, 5, 1), 8);
        due("put(0, 8, 0)", x.put(0, 8, 0), 5);
        due("text", text(x, 0), "+0-00+");
        due("put(0, 5, 0)", x.put(0, 5, 0), 3);
        due("put(0, 0, 0)", x.put(0, 0, 0), 3);
        due("text", text(x, 0), "-000");
        due("nothing refused", x.count(5), 0);
        due("put(0, 3, 0) refused", x.put(0, 3, 0), SignRoots.NONE);
        due("text after refusal", text(x, 0), "-000");
        due("refused", x.count(5), 1);
        due("put(0, 2, 0) is no refusal", x.put(0, 2, 0), 3);
        due("refused", x.count(5), 1);
        due("other", text(x, 1), "+");

        SignRoots y = new SignRoots();
        due("put(4, 0, 0) refused", y.put(4, 0, 0), SignRoots.NONE);
        due("refusal is undoable", y.count(7), 1);
        due("put that changes nothing", y.put(4, 0, 1), 0);
        due("is undoable", y.count(7), 2);
        due("undo", y.undo(), 1);
        due("refused", y.count(5), 1);
        due("undo", y.undo(), 0);
        due("refused, undone", y.count(5), 0);
        for (int number : WRONG_NUMBERS) {
            refuses(y, "put number", NO_NUMBER, () -> y.put(number, 0, 1));
            refuses(y, "put number ahead of all", NO_NUMBER, () -> y.put(number, 9, 2));
        }
        for (int power : WRONG_POWERS) {
            refuses(y, "put power", WRONG, () -> y.put(0, power, 1));
        }
        for (int sign : WRONG_SIGNS) {
            refuses(y, "put sign", WRONG, () -> y.put(0, 0, sign));
        }
    }

    private static void copy() {
        where = "3 copy";
        SignRoots x = with("+-0", "-");
        due("copy(0, 4)", x.copy(0, 4), 2);
        due("text", text(x, 4), "+-0");
        due("from", text(x, 0), "+-0");
        x.put(0, 8, 1);
        due("text is its own", text(x, 4), "+-0");
        due("copy(1, 0)", x.copy(1, 0), 0);
        due("higher signs are 0", text(x, 0), "-");
        due("saved", x.count(7), 5);
        due("copy(4, 4)", x.copy(4, 4), 2);
        due("saved, though it changes nothing", x.count(7), 6);
        due("undo", x.undo(), 5);
        due("undo", x.undo(), 4);
        due("text", text(x, 0), "+00000+-0");
        for (int number : WRONG_NUMBERS) {
            refuses(x, "copy from", NO_NUMBER, () -> x.copy(number, 0));
            refuses(x, "copy to", NO_NUMBER, () -> x.copy(0, number));
        }
    }

    private static void divide() {
        where = "4 divide";
        SignRoots x = with("+0-", "+-+", "+00", "+++", "-+-+");
        due("divide(0, 1)", x.divide(0, 1), 1);
        due("text", text(x, 0), "++");
        due("taken", x.count(4), 1);
        due("divide(1, 1)", x.divide(1, 1), 1);
        due("text", text(x, 1), "+-");
        due("divide(1, 1)", x.divide(1, 1), 0);
        due("text", text(x, 1), "+");
        due("divide(1, 1) of degree 0", x.divide(1, 1), SignRoots.NONE);
        due("text", text(x, 1), "+");
        due("taken", x.count(4), 3);
        due("refused", x.count(5), 1);
        due("divide(2, 0)", x.divide(2, 0), 1);
        due("text", text(x, 2), "+0");
        due("divide(3, 1)", x.divide(3, 1), SignRoots.NONE);
        due("divide(3, 0)", x.divide(3, 0), SignRoots.NONE);
        due("text", text(x, 3), "+++");
        due("refused", x.count(5), 3);
        due("saved at most", x.count(7), 6);
        due("divide(3, -1)", x.divide(3, -1), 1);
        due("text", text(x, 3), "++");
        due("undo", x.undo(), 5);
        due("taken, undone", x.count(4), 4);
        due("undo of a refusal", x.undo(), 4);
        due("refused, undone", x.count(5), 2);
        due("divide(4, 1)", x.divide(4, 1), 2);
        due("text", text(x, 4), "-+-");
        set(x, 4, "++++");
        due("divide(4, -1) by the best, not the first", x.divide(4, -1), 2);
        due("text", text(x, 4), "+++");
        for (int number : WRONG_NUMBERS) {
            refuses(x, "divide number", NO_NUMBER, () -> x.divide(number, 1));
            refuses(x, "divide number ahead", NO_NUMBER, () -> x.divide(number, 2));
        }
        for (int sign : WRONG_SIGNS) {
            refuses(x, "divide root", WRONG, () -> x.divide(0, sign));
        }
        SignRoots y = with("+");
        y.divide(0, 0);
        due("refusal at degree 0 is undoable", y.count(7), 2);
    }

    private static void root() {
        where = "5 root";
        SignRoots x = new SignRoots();
        int[] roots = {-9, 9, 0, 1, -1, 5, -5, 9};
        for (int i = 0; i < 8; i++) {
            due("root " + roots[i], x.root(roots[i]), i + 1);
        }
        due("saved", x.count(7), 6);
        due("the ninth", x.root(3), SignRoots.NONE);
        due("degree", x.count(0), 8);
        due("refused", x.count(5), 1);
        due("undo", x.undo(), 5);
        due("refused, undone", x.count(5), 0);
        due("undo", x.undo(), 4);
        due("degree, undone", x.count(0), 7);
        for (int root : new int[] {-10, 10, Integer.MIN_VALUE, Integer.MAX_VALUE}) {
            refuses(x, "root " + root, WRONG, () -> x.root(root));
        }
        due("last root", x.unroot(), -5);
        SignRoots full = withRoots(1, 1, 1, 1, 1, 1, 1, 1);
        refuses(full, "root out of range when full", WRONG, () -> full.root(10));
    }

    private static void unroot() {
        where = "6 unroot";
        SignRoots x = withRoots(-9, 0, 7);
        due("unroot", x.unroot(), 7);
        due("unroot", x.unroot(), 0);
        due("degree", x.count(0), 1);
        due("unroot", x.unroot(), -9);
        due("saved", x.count(7), 6);
        due("no root left", x.unroot(), 99);
        due("refused", x.count(5), 1);
        due("undo", x.undo(), 5);
        due("refused, undone", x.count(5), 0);
        due("undo", x.undo(), 4);
        due("coefficient", x.coefficient(0), 9L);
        SignRoots y = new SignRoots();
        due("refused at once", y.unroot(), 99);
        due("refusal is undoable", y.count(7), 1);
        due("root after it", y.root(4), 1);
    }

    private static void lower() {
        where = "7 lower";
        SignRoots x = with("+-+-+-+-+");
        due("lower without roots", x.lower(0), 0);
        due("text", text(x, 0), "+");
        x.root(1);
        x.root(-1);
        due("lower of x^2 - 1", x.lower(0), 2);
        due("text", text(x, 0), "+0-");
        x.root(0);
        x.root(0);
        x.root(9);
        due("lower of x^5 - 9x^4 - x^3 + 9x^2", x.lower(4), 5);
        due("text", text(x, 4), "+--+00");
        due("whole stays", x.count(0), 5);
        due("saved", x.count(7), 6);
        due("undo", x.undo(), 5);
        due("text, undone", text(x, 4), "+");
        for (int number : WRONG_NUMBERS) {
            refuses(x, "lower number", NO_NUMBER, () -> x.lower(number));
        }
        SignRoots fresh = new SignRoots();
        due("lower that changes nothing", fresh.lower(3), 0);
        due("is undoable", fresh.count(7), 1);
        SignRoots y = withRoots(-1, -2, -3, -4, -5, -6, -7, -8);
        due("lower of degree 8", y.lower(1), 8);
        due("text", text(y, 1), "+++++++++");
    }

    private static void append() {
        where = "8 append";
        SignRoots x = new SignRoots();
        due("33", x.append(33), 1);
        due("126", x.append(126), 2);
        due("not undoable", x.count(7), 0);
        for (int code : new int[] {32, 127, -1, 0, Integer.MIN_VALUE, Integer.MAX_VALUE}) {
            refuses(x, "append " + code, WRONG, () -> x.append(code));
        }
        for (int i = 3; i <= 60; i++) {
            due("length", x.append('+'), i);
        }
        refuses(x, "append to 60", BAD_STATE, () -> x.append('+'));
        refuses(x, "append 32 to 60", WRONG, () -> x.append(32));
        due("length", x.clearBuffer(), 60);
        due("append again", x.append('0'), 1);
    }

    private static void clearBuffer() {
        where = "9 clearBuffer";
        SignRoots x = new SignRoots();
        due("empty", x.clearBuffer(), 0);
        type(x, "+-x");
        due("length it had", x.clearBuffer(), 3);
        due("then", x.clearBuffer(), 0);
        due("not undoable", x.count(7), 0);
        due("append then", x.append('-'), 1);
    }

    private static void firstError() {
        where = "10 firstError";
        String[] texts = {"", "+", "-", "0", "+0", "++00-", "+-0+-0+-0", "+-0+-0+-0+", "+-0+-0+-0x", "0+",
            "x", "+x", "+-1", "++!++!", "-0000000000", "-00x0000000", "+,", "+."};
        int[] places = {0, 1, 1, 0, 2, 5, 9, 9, 9, 0, 0, 1, 2, 2, 9, 3, 1, 1};
        SignRoots x = new SignRoots();
        for (int i = 0; i < texts.length; i++) {
            type(x, texts[i]);
            due("firstError of '" + texts[i] + "'", x.firstError(), places[i]);
            due("the buffer stays", x.clearBuffer(), texts[i].length());
        }
        due("not undoable", x.count(7), 0);
        for (int i = 0; i < 60; i++) {
            x.append('-');
        }
        due("firstError of 60", x.firstError(), 9);
    }

    private static void load() {
        where = "11 load";
        SignRoots x = new SignRoots();
        type(x, "-0+");
        due("load(2)", x.load(2), 2);
        due("text", text(x, 2), "-0+");
        due("buffer", x.clearBuffer(), 0);
        type(x, "+-0+-0+-0");
        due("load(2)", x.load(2), 8);
        due("text", text(x, 2), "+-0+-0+-0");
        type(x, "-");
        due("load(2)", x.load(2), 0);
        due("text", text(x, 2), "-");
        due("saved", x.count(7), 3);
        type(x, "+x");
        due("undo", x.undo(), 2);
        due("text, undone", text(x, 2), "+-0+-0+-0");
        due("the buffer is not undone", x.firstError(), 1);
        for (String text : new String[] {"", "0", "0+", "+-0+-0+-00", "+x", "x", "+1"}) {
            type(x, text);
            refuses(x, "load of '" + text + "'", WRONG, () -> x.load(0));
            for (int number : WRONG_NUMBERS) {
                refuses(x, "load number ahead", NO_NUMBER, () -> x.load(number));
            }
            due("the buffer stays", x.clearBuffer(), text.length());
        }
        type(x, "+-");
        for (int number : WRONG_NUMBERS) {
            refuses(x, "load number", NO_NUMBER, () -> x.load(number));
        }
        due("load then", x.load(4), 1);
    }

    private static void keep() {
        where = "12 keep";
        SignRoots x = with("+00", "+-+-+-+-+");
        int saved = x.count(7);
        due("keep(0)", x.keep(0), 10);
        due("not undoable", x.count(7), saved);
        x.put(4, 3, 1);
        due("keep(1)", x.keep(1), 13);
        x.put(0, 8, 1);
        due("keep(0) in place", x.keep(0), 19);
        x.put(0, 8, 0);
        due("goBack(0)", x.goBack(0), 19);
        due("goBack(1)", x.goBack(1), 13);
        x.undo();
        x.undo();
        due("slots are not undone", x.goBack(0), 19);
        for (int slot : WRONG_PAIRS) {
            refuses(x, "keep slot", WRONG, () -> x.keep(slot));
        }
        SignRoots y = new SignRoots();
        due("keep of a new object", y.keep(1), 0);
        y.put(0, 4, 1);
        due("a snapshot stays as it was", y.goBack(1), 0);
    }

    private static void goBack() {
        where = "13 goBack";
        SignRoots x = with("+-");
        x.root(3);
        x.unroot();
        x.unroot();
        x.root(-4);
        x.divide(0, 1);
        x.keep(0);
        type(x, "+-+");
        x.put(0, 5, -1);
        x.root(2);
        x.divide(1, 1);
        x.unroot();
        x.unroot();
        x.keep(1);
        due("goBack(0)", x.goBack(0), 0);
        due("text", text(x, 0), "+");
        due("roots", x.count(0), 1);
        due("root", x.coefficient(0), 4L);
        due("taken", x.count(4), 1);
        due("refused", x.count(5), 1);
        due("saved", x.count(7), 6);
        due("the buffer stays", x.firstError(), 3);
        due("goBack(1)", x.goBack(1), 5);
        due("refused", x.count(5), 2);
        x.root(9);
        due("the snapshot stays", x.goBack(0), 0);
        due("undo", x.undo(), 5);
        due("roots", x.count(0), 1);
        due("degree", x.of(0, 0), 5);
        SignRoots y = new SignRoots();
        for (int slot : WRONG_PAIRS) {
            refuses(y, "goBack slot", WRONG, () -> y.goBack(slot));
        }
        refuses(y, "goBack(0) without", BAD_STATE, () -> y.goBack(0));
        y.keep(0);
        refuses(y, "goBack(1) without", BAD_STATE, () -> y.goBack(1));
        due("goBack(0)", y.goBack(0), 0);
        due("undoable, though it changes nothing", y.count(7), 1);
    }

    private static void undo() {
        where = "14 undo";
        SignRoots x = new SignRoots();
        refuses(x, "undo without", BAD_STATE, () -> x.undo());
        for (int power = 1; power <= 8; power++) {
            x.put(0, power, 1);
        }
        due("saved at most", x.count(7), 6);
        for (int left = 5; left >= 0; left--) {
            due("undo", x.undo(), left);
            due("degree", x.of(0, 0), left + 2);
            due("saved", x.count(7), left);
        }
        refuses(x, "undo when none is left", BAD_STATE, () -> x.undo());
        due("degree", x.of(0, 0), 2);

        SignRoots y = new SignRoots();
        y.root(4);
        y.keep(0);
        type(y, "+-");
        y.load(1);
        y.divide(1, 1);
        y.unroot();
        y.unroot();
        type(y, "0");
        due("undo", y.undo(), 4);
        due("refused", y.count(5), 0);
        due("undo", y.undo(), 3);
        due("coefficient", y.coefficient(0), -4L);
        due("taken", y.count(4), 1);
        due("undo", y.undo(), 2);
        due("taken", y.count(4), 0);
        due("text", text(y, 1), "+-");
        due("undo", y.undo(), 1);
        due("text", text(y, 1), "+");
        due("the buffer is as it was", y.clearBuffer(), 1);
        due("undo", y.undo(), 0);
        due("degree", y.count(0), 0);
        due("the slot is as it was", y.goBack(0), 0);
        due("degree", y.count(0), 1);
    }

    private static void sign() {
        where = "15 sign";
        SignRoots x = with("+0-", "-", "+-0+-0+-0");
        int[] signs = {-1, 0, 1, 0, 0, 0, 0, 0, 0};
        for (int power = 0; power < 9; power++) {
            due("sign(0, " + power + ")", x.sign(0, power), signs[power]);
        }
        due("sign(1, 0)", x.sign(1, 0), -1);
        due("sign(2, 8)", x.sign(2, 8), 1);
        due("sign(2, 7)", x.sign(2, 7), -1);
        due("sign(4, 0)", x.sign(4, 0), 1);
        for (int number : WRONG_NUMBERS) {
            refuses(x, "sign number", NO_NUMBER, () -> x.sign(number, 0));
            refuses(x, "sign number ahead", NO_NUMBER, () -> x.sign(number, 9));
        }
        for (int power : WRONG_POWERS) {
            refuses(x, "sign power", WRONG, () -> x.sign(0, power));
        }
    }

    private static void of() {
        where = "16 of";
        SignRoots x = with("+0-", "-", "+-0+-0+-0", "-++--+", "+-+-+-+-+");
        int[] degrees = {2, 0, 8, 5, 8};
        int[] notZero = {2, 1, 6, 6, 9};
        int[] changes = {1, 0, 5, 3, 8};
        int[] forms = {9840 - 1 + 9 + 1, 9840, form("+-0+-0+-0"), form("-++--+"), form("+-+-+-+-+")};
        for (int number = 0; number < 5; number++) {
            due("degree of " + number, x.of(number, 0), degrees[number]);
            due("signs not 0 of " + number, x.of(number, 1), notZero[number]);
            due("changes of " + number, x.of(number, 2), changes[number]);
            due("form of " + number, x.of(number, 3), forms[number]);
        }
        SignRoots y = with("+++++++++", "---------", "+");
        due("greatest form", y.of(0, 3), 19682);
        due("least form", y.of(1, 3), 0);
        due("form of 1", y.of(2, 3), 9842);
        for (int number : WRONG_NUMBERS) {
            refuses(x, "of number", NO_NUMBER, () -> x.of(number, 0));
            refuses(x, "of number ahead", NO_NUMBER, () -> x.of(number, 4));
        }
        for (int what : new int[] {-1, 4, Integer.MIN_VALUE, Integer.MAX_VALUE}) {
            refuses(x, "of what", WRONG, () -> x.of(0, what));
        }
    }

    private static void isRoot() {
        where = "17 isRoot";
        String[] texts = {"+", "+-", "++", "+0", "+0-", "+0+", "+00", "+-+", "+++", "-0+0-", "+00+"};
        int[][] roots = {{0, 0, 0}, {0, 0, 1}, {1, 0, 0}, {0, 1, 0}, {1, 0, 1}, {0, 0, 0}, {0, 1, 0},
            {0, 0, 1}, {1, 0, 0}, {1, 0, 1}, {1, 0, 0}};
        SignRoots x = new SignRoots();
        for (int i = 0; i < texts.length; i++) {
            set(x, 3, texts[i]);
            for (int root = -1; root <= 1; root++) {
                due("isRoot of " + texts[i] + " by " + root, x.isRoot(3, root), roots[i][root + 1]);
            }
        }
        for (int number : WRONG_NUMBERS) {
            refuses(x, "isRoot number", NO_NUMBER, () -> x.isRoot(number, 0));
            refuses(x, "isRoot number ahead", NO_NUMBER, () -> x.isRoot(number, 2));
        }
        for (int sign : WRONG_SIGNS) {
            refuses(x, "isRoot root", WRONG, () -> x.isRoot(0, sign));
        }
    }

    private static void times() {
        where = "18 times";
        String[] texts = {"+", "-+", "+0-", "+-+", "+++", "+00", "-++--+", "+-+-+-+-+", "+++++++++", "+00000000",
            "+0+-0", "--------+"};
        int[][] times = {{0, 0, 0}, {0, 0, 1}, {1, 0, 1}, {0, 0, 2}, {2, 0, 0}, {0, 2, 0}, {2, 0, 3},
            {0, 0, 8}, {8, 0, 0}, {0, 8, 0}, {0, 1, 1}, {7, 0, 1}};
        SignRoots x = new SignRoots();
        for (int i = 0; i < texts.length; i++) {
            set(x, 1, texts[i]);
            for (int root = -1; root <= 1; root++) {
                due("tried of " + texts[i] + " by " + root, x.times(1, root, 0), times[i][root + 1]);
                due("counted of " + texts[i] + " by " + root, x.times(1, root, 1), times[i][root + 1]);
            }
        }
        for (int number : WRONG_NUMBERS) {
            refuses(x, "times number", NO_NUMBER, () -> x.times(number, 0, 0));
            refuses(x, "times number ahead", NO_NUMBER, () -> x.times(number, 2, 2));
        }
        for (int sign : WRONG_SIGNS) {
            refuses(x, "times root", WRONG, () -> x.times(0, sign, 0));
        }
        for (int what : WRONG_PAIRS) {
            refuses(x, "times what", WRONG, () -> x.times(0, 0, what));
        }
    }

    private static void quotients() {
        where = "19 quotients";
        // Those of -++- by 1 are - and +, with any sign between them; so it is with ++++ by -1.
        String[] texts = {"+", "+-", "++", "+0", "+0-", "+-+", "--++", "+00", "-++-", "++++", "+++", "-------++"};
        int[][] found = {{0, 0, 0}, {0, 0, 1}, {1, 0, 0}, {0, 1, 0}, {1, 0, 1}, {0, 0, 1}, {3, 0, 1},
            {0, 1, 0}, {1, 0, 3}, {3, 0, 0}, {1, 0, 0}, {85, 0, 1}};
        SignRoots x = new SignRoots();
        for (int i = 0; i < texts.length; i++) {
            set(x, 2, texts[i]);
            for (int root = -1; root <= 1; root++) {
                due("quotients of " + texts[i] + " by " + root, x.quotients(2, root), found[i][root + 1]);
            }
        }
        for (int number : WRONG_NUMBERS) {
            refuses(x, "quotients number", NO_NUMBER, () -> x.quotients(number, 0));
            refuses(x, "quotients number ahead", NO_NUMBER, () -> x.quotients(number, 2));
        }
        for (int sign : WRONG_SIGNS) {
            refuses(x, "quotients root", WRONG, () -> x.quotients(0, sign));
        }
    }

    private static void best() {
        where = "20 best";
        // Of ++++ by -1 the last one of three is the best: -1 can be taken out of +++ twice more.
        // All three of -++- by 1, and of ++0++ by -1, are as good: the lowest powers tell.
        String[] texts = {"+", "+-", "++", "+0", "+0-", "+-+", "+++", "+00", "++++", "-++-", "++0++", "+-+-+"};
        String[][] bests = {{"", "", ""}, {"", "", "+"}, {"+", "", ""}, {"", "+", ""}, {"+-", "", "++"},
            {"", "", "+-"}, {"++", "", ""}, {"", "+0", ""}, {"+++", "", ""}, {"-+-", "", "--+"},
            {"++-+", "", ""}, {"", "", "+-+-"}};
        SignRoots x = new SignRoots();
        for (int i = 0; i < texts.length; i++) {
            set(x, 0, texts[i]);
            for (int root = -1; root <= 1; root++) {
                String best = bests[i][root + 1];
                int want = best.isEmpty() ? SignRoots.NONE : form(best);
                due("best of " + texts[i] + " by " + root, x.best(0, root), want);
            }
        }
        for (int number : WRONG_NUMBERS) {
            refuses(x, "best number", NO_NUMBER, () -> x.best(number, 0));
            refuses(x, "best number ahead", NO_NUMBER, () -> x.best(number, 2));
        }
        for (int sign : WRONG_SIGNS) {
            refuses(x, "best root", WRONG, () -> x.best(0, sign));
        }
    }

    private static void many() {
        where = "21 many";
        SignRoots x = with("+-", "-+", "+0", "+++++", "++++-");
        due("sum of a polynomial and itself", x.many(0, 0, 0), 1);
        due("sum with two pairs", x.many(0, 1, 0), 9);
        due("sum with 0", x.many(2, 1, 0), 3);
        due("sum of other degrees", x.many(3, 0, 0), 3);
        due("sum above 8 together", x.many(3, 4, 0), 3);
        due("product (x-1)(x-1)", x.many(0, 0, 1), 1);
        due("product (x-1)(-x+1)", x.many(0, 1, 1), 1);
        due("product x(x-1)", x.many(2, 0, 1), 1);
        due("product of degree 8", x.many(3, 4, 1), 81);
        due("product of degree 8, other way", x.many(4, 3, 1), 81);
        due("product of degree 8 of all 1", x.many(3, 3, 1), 1);
        set(x, 0, "+00000");
        due("product above 8", x.many(0, 3, 1), SignRoots.NONE);
        due("product above 8, other way", x.many(3, 0, 1), SignRoots.NONE);
        due("nothing is refused", x.count(5), 0);
        set(x, 0, "++++++++");
        set(x, 1, "+-");
        due("product of degree 8 with seven sums", x.many(0, 1, 1), 2187);
        set(x, 0, "+-+-+-+-+");
        set(x, 1, "-+-+-+-+-");
        due("the most", x.many(0, 1, 0), 19683);
        for (int number : WRONG_NUMBERS) {
            refuses(x, "many first", NO_NUMBER, () -> x.many(number, 0, 0));
            refuses(x, "many second", NO_NUMBER, () -> x.many(0, number, 1));
            refuses(x, "many number ahead", NO_NUMBER, () -> x.many(0, number, 2));
        }
        for (int what : WRONG_PAIRS) {
            refuses(x, "many what", WRONG, () -> x.many(0, 0, what));
        }
    }

    private static void isIn() {
        where = "22 isIn";
        SignRoots x = with("+-", "-+", "+0", "+-+", "+00000000");
        due("+0 in +- plus -+", x.isIn(2, 0, 1, 0), 1);
        due("+- in +- plus -+", x.isIn(0, 0, 1, 0), 1);
        due("+-+ in +- plus -+", x.isIn(3, 0, 1, 0), 0);
        due("+0 in +- plus +-", x.isIn(2, 0, 0, 0), 0);
        due("+- in +- plus +-", x.isIn(0, 0, 0, 0), 1);
        due("+- in +0 plus +-", x.isIn(0, 2, 0, 0), 1);
        due("+0 in +0 plus +-", x.isIn(2, 2, 0, 0), 0);
        due("+-+ in +- times +-", x.isIn(3, 0, 0, 1), 1);
        due("+- in +- times +-", x.isIn(0, 0, 0, 1), 0);
        due("+-+ in +- times -+", x.isIn(3, 0, 1, 1), 0);
        set(x, 1, "++");
        set(x, 3, "+0-");
        due("+0- in +- times ++", x.isIn(3, 0, 1, 1), 1);
        set(x, 3, "++-");
        due("++- in +- times ++", x.isIn(3, 0, 1, 1), 1);
        set(x, 3, "++0");
        due("++0 in +- times ++", x.isIn(3, 0, 1, 1), 0);
        due("above 8", x.isIn(4, 4, 2, 1), 0);
        due("above 8, other way", x.isIn(4, 2, 4, 1), 0);
        due("8 in the sum", x.isIn(4, 4, 4, 0), 1);
        set(x, 2, "+");
        due("8 in the product", x.isIn(4, 4, 2, 1), 1);
        due("nothing is refused", x.count(5), 0);
        for (int number : WRONG_NUMBERS) {
            refuses(x, "isIn number", NO_NUMBER, () -> x.isIn(number, 0, 0, 0));
            refuses(x, "isIn first", NO_NUMBER, () -> x.isIn(0, number, 0, 0));
            refuses(x, "isIn second", NO_NUMBER, () -> x.isIn(0, 0, number, 1));
            refuses(x, "isIn number ahead", NO_NUMBER, () -> x.isIn(0, 0, number, 2));
        }
        for (int what : WRONG_PAIRS) {
            refuses(x, "isIn what", WRONG, () -> x.isIn(0, 0, 0, what));
        }
    }

    private static void coefficient() {
        where = "23 coefficient";
        SignRoots x = withRoots(2, -3, 0);
        long[] want = {0, -6, 1, 1, 0, 0, 0, 0, 0};
        for (int power = 0; power < 9; power++) {
            due("coefficient of x(x-2)(x+3), " + power, x.coefficient(power), want[power]);
        }
        SignRoots y = withRoots(9, 9, 9, 9, 9, 9, 9, 9);
        long binomial = 1;
        long power9 = 1;
        for (int power = 8; power >= 0; power--) {
            due("coefficient of (x-9)^8, " + power, y.coefficient(power), binomial * power9);
            binomial = binomial * power / (9 - power);
            power9 = power9 * -9;
        }
        due("count", y.count(0), 8);
        y.unroot();
        due("coefficient after unroot", y.coefficient(7), 1L);
        due("coefficient above the degree", y.coefficient(8), 0L);
        due("coefficient 0", y.coefficient(0), -4782969L);
        for (int power : WRONG_POWERS) {
            refuses(y, "coefficient power", WRONG, () -> y.coefficient(power));
        }
    }

    private static void count() {
        where = "24 count";
        SignRoots x = withRoots(3, -1, 0, 0, 9, 1, -9);
        int[] want = {7, 3, 2, 2, 0, 0, 0, 6};
        for (int what = 0; what < 8; what++) {
            due("count " + what, x.count(what), want[what]);
        }
        set(x, 0, "+-");
        set(x, 1, "+++");
        set(x, 2, "-0+");
        set(x, 4, "+-+-");
        due("with the root 1", x.count(6), 3);
        x.divide(4, 1);
        x.divide(4, 1);
        x.divide(1, 1);
        due("taken", x.count(4), 2);
        due("refused", x.count(5), 1);
        x.put(3, 0, 0);
        x.root(5);
        x.root(5);
        due("refused", x.count(5), 3);
        due("quotients that are only told are not taken", x.best(4, 1) >= 0 ? x.count(4) : -1, 2);
        due("saved", x.count(7), 6);
        for (int what : new int[] {-1, 8, Integer.MIN_VALUE, Integer.MAX_VALUE}) {
            refuses(x, "count what", WRONG, () -> x.count(what));
        }
    }

    private static void takenShare() {
        where = "25 takenShare";
        String[] texts = {"+", "-", "+-", "+0+", "+0-", "+00", "++++++++", "+00+", "+0000000+", "+0-00+00", "+000+"};
        double[] shares = {1.0, 1.0, 1.0, 0.0, 1.0, 1.0, 1.0, 1.0 / 3, 0.0, 5.0 / 7, 0.0};
        SignRoots x = new SignRoots();
        for (int i = 0; i < texts.length; i++) {
            set(x, 4, texts[i]);
            due("share of " + texts[i], x.takenShare(4), shares[i]);
        }
        for (int number : WRONG_NUMBERS) {
            refuses(x, "takenShare number", NO_NUMBER, () -> x.takenShare(number));
        }
    }

    private static long digestByCalls(SignRoots x, int[] roots, int[] slots, String buffer) {
        java.util.ArrayList<Long> values = new java.util.ArrayList<>();
        for (int what = 0; what < 8; what++) {
            values.add((long) x.count(what));
        }
        for (int number = 0; number < 5; number++) {
            for (int what = 0; what < 4; what++) {
                values.add((long) x.of(number, what));
            }
            for (int power = 0; power < 9; power++) {
                values.add((long) x.sign(number, power));
            }
            for (int root = -1; root <= 1; root++) {
                values.add((long) x.isRoot(number, root));
                values.add((long) x.times(number, root, 0));
                values.add((long) x.times(number, root, 1));
                values.add((long) x.quotients(number, root));
                values.add((long) x.best(number, root));
            }
            values.add(Double.doubleToLongBits(x.takenShare(number)));
        }
        for (int first = 0; first < 5; first++) {
            for (int second = 0; second < 5; second++) {
                values.add((long) x.many(first, second, 0));
                values.add((long) x.many(first, second, 1));
            }
        }
        for (int power = 0; power < 9; power++) {
            values.add(x.coefficient(power));
        }
        for (int root : roots) {
            values.add((long) root);
        }
        for (int slot : slots) {
            values.add((long) slot);
        }
        values.add((long) buffer.length());
        for (int i = 0; i < buffer.length(); i++) {
            values.add((long) buffer.charAt(i));
        }
        long hash = 3623;
        for (long value : values) {
            hash = 31 * hash + value;
        }
        return hash;
    }

    private static void digest() {
        where = "26 digest";
        SignRoots x = new SignRoots();
        due("new", x.digest(), digestByCalls(x, new int[0], new int[] {0, 0}, ""));
        set(x, 0, "+00+");
        set(x, 1, "+0-00+00");
        set(x, 2, "-++--+");
        set(x, 3, "+-+-+-+-+");
        x.divide(3, 1);
        x.unroot();
        x.root(-7);
        x.root(0);
        x.root(4);
        due("filled", x.digest(), digestByCalls(x, new int[] {-7, 0, 4}, new int[] {0, 0}, ""));
        x.keep(1);
        due("kept", x.digest(), digestByCalls(x, new int[] {-7, 0, 4}, new int[] {0, 1}, ""));
        type(x, "+~!");
        due("typed", x.digest(), digestByCalls(x, new int[] {-7, 0, 4}, new int[] {0, 1}, "+~!"));
        x.keep(0);
        due("both kept", x.digest(), digestByCalls(x, new int[] {-7, 0, 4}, new int[] {1, 1}, "+~!"));
        x.unroot();
        due("unrooted", x.digest(), digestByCalls(x, new int[] {-7, 0}, new int[] {1, 1}, "+~!"));
        set(x, 2, "+0+");
        set(x, 4, "+0000000+");
        due("with a share of 0.0", x.digest(), digestByCalls(x, new int[] {-7, 0}, new int[] {1, 1}, ""));
        SignRoots y = new SignRoots();
        y.root(2);
        y.root(3);
        SignRoots z = new SignRoots();
        z.root(3);
        z.root(2);
        due("the order of the roots counts", y.digest() != z.digest(), true);
        due("digest again", y.digest(), y.digest());
    }
}
