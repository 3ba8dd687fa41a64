import java.util.ArrayList;
import java.util.HashMap;
import java.util.List;
import java.util.Map;
import java.util.TreeSet;

/**
 * Compares the class with a slow model that follows the document's definitions word for word: all
 * polynomials one by one, all pairs of low degrees, and long runs of calls with any arguments.
 */
public final class ModelTest {
    private static final int RUNS = 400;
    private static final int CALLS = 250;

    private static int wrong = 0;
    private static long seed = 20261119L;

    private static final Map<String, List<int[]>> QUOTIENTS = new HashMap<>();
    private static final Map<String, Integer> TIMES = new HashMap<>();

    public static void main(String[] args) {
        allPolynomials();
        allPairs();
        for (int run = 0; run < RUNS && wrong < 20; run++) {
            randomRun(run);
        }
        System.out.println(wrong == 0 ? "the model and the class agree" : wrong + " answers differ");
        if (wrong != 0) {
            System.exit(1);
        }
    }

    private static void due(String what, Object got, Object want) {
        if (!String.valueOf(got).equals(String.valueOf(want))) {
            wrong++;
            if (wrong <= 20) {
                System.out.println(what + " answered " + got + ", due is " + want);
            }
        }
    }

    private static int random(int bound) {
        seed = seed * 6364136223846793005L + 1442695040888963407L;
        return (int) ((seed >>> 33) % bound);
    }

    // ---- the definitions

    private static TreeSet<Integer> sum(List<Integer> signs) {
        boolean plus = signs.contains(1);
        boolean minus = signs.contains(-1);
        TreeSet<Integer> values = new TreeSet<>();
        if (plus && minus) {
            values.addAll(List.of(-1, 0, 1));
        } else {
            values.add(plus ? 1 : minus ? -1 : 0);
        }
        return values;
    }

    /** The sum of two signs, as a table of the first one's and the second one's. */
    private static boolean inSumOfTwo(int value, int a, int b) {
        if (a == 0) {
            return value == b;
        }
        if (b == 0 || a == b) {
            return value == a;
        }
        return true;
    }

    private static int at(int[] signs, int power) {
        return power < 0 || power >= signs.length ? 0 : signs[power];
    }

    private static int raised(int a, int power) {
        int value = 1;
        for (int i = 0; i < power; i++) {
            value *= a;
        }
        return value;
    }

    /** Polynomials here are rows as long as the degree and one. */
    private static List<int[]> quotients(int[] p, int a) {
        String key = java.util.Arrays.toString(p) + a;
        List<int[]> found = QUOTIENTS.get(key);
        if (found == null) {
            found = new ArrayList<>();
            int degree = p.length - 1;
            int candidates = degree == 0 ? 0 : raised(3, degree);
            for (int number = 0; number < candidates; number++) {
                int[] q = new int[degree];
                int rest = number;
                for (int i = degree - 1; i >= 0; i--) {
                    q[i] = rest % 3 - 1;
                    rest /= 3;
                }
                if (q[degree - 1] != 0 && isQuotient(p, q, a)) {
                    found.add(q);
                }
            }
            QUOTIENTS.put(key, found);
        }
        return found;
    }

    private static boolean isQuotient(int[] p, int[] q, int a) {
        for (int k = 0; k < p.length; k++) {
            if (!inSumOfTwo(p[k], at(q, k - 1), -a * at(q, k))) {
                return false;
            }
        }
        return true;
    }

    private static int times(int[] p, int a) {
        String key = java.util.Arrays.toString(p) + a;
        Integer known = TIMES.get(key);
        if (known == null) {
            int most = 0;
            for (int[] q : quotients(p, a)) {
                most = Math.max(most, 1 + times(q, a));
            }
            known = most;
            TIMES.put(key, known);
        }
        return known;
    }

    private static int[] best(int[] p, int a) {
        int[] best = null;
        for (int[] q : quotients(p, a)) {
            if (best == null || times(q, a) > times(best, a)) {
                best = q;
            }
        }
        return best;
    }

    private static boolean isRoot(int[] p, int a) {
        List<Integer> terms = new ArrayList<>();
        for (int k = 0; k < p.length; k++) {
            terms.add(p[k] * raised(a, k));
        }
        return sum(terms).contains(0);
    }

    private static int form(int[] p) {
        int form = 0;
        for (int k = 0; k < 9; k++) {
            form += (at(p, k) + 1) * raised(3, k);
        }
        return form;
    }

    private static int notZero(int[] p) {
        int found = 0;
        for (int sign : p) {
            found += sign * sign;
        }
        return found;
    }

    private static int changes(int[] p) {
        StringBuilder signs = new StringBuilder();
        for (int sign : p) {
            signs.append(sign == 0 ? "" : sign == 1 ? "+" : "-");
        }
        int changes = 0;
        for (int i = 1; i < signs.length(); i++) {
            changes += signs.charAt(i) == signs.charAt(i - 1) ? 0 : 1;
        }
        return changes;
    }

    private static double share(int[] p) {
        if (p.length == 1) {
            return 1.0;
        }
        return (double) (times(p, 1) + times(p, -1) + times(p, 0)) / (p.length - 1);
    }

    private static List<TreeSet<Integer>> rows(int[] p, int[] q, int what) {
        List<TreeSet<Integer>> rows = new ArrayList<>();
        for (int k = 0; k < 9; k++) {
            List<Integer> terms = new ArrayList<>();
            if (what == 0) {
                terms.add(at(p, k));
                terms.add(at(q, k));
            } else {
                for (int i = 0; i < 9; i++) {
                    terms.add(at(p, i) * at(q, k - i));
                }
            }
            rows.add(sum(terms));
        }
        return rows;
    }

    private static boolean tooHigh(int[] p, int[] q, int what) {
        return what == 1 && p.length - 1 + q.length - 1 > 8;
    }

    private static int many(int[] p, int[] q, int what) {
        if (tooHigh(p, q, what)) {
            return -9;
        }
        int many = 1;
        for (TreeSet<Integer> values : rows(p, q, what)) {
            many *= values.size();
        }
        return many;
    }

    private static int isIn(int[] r, int[] p, int[] q, int what) {
        if (tooHigh(p, q, what)) {
            return 0;
        }
        List<TreeSet<Integer>> rows = rows(p, q, what);
        for (int k = 0; k < 9; k++) {
            if (!rows.get(k).contains(at(r, k))) {
                return 0;
            }
        }
        return 1;
    }

    private static int[] trimmed(int[] signs) {
        int length = 0;
        for (int k = 0; k < signs.length; k++) {
            length = signs[k] != 0 ? k + 1 : length;
        }
        return java.util.Arrays.copyOf(signs, length);
    }

    // ---- all polynomials, all pairs

    private static void type(SignRoots x, int[] p) {
        x.clearBuffer();
        for (int k = p.length - 1; k >= 0; k--) {
            x.append(p[k] == 1 ? '+' : p[k] == -1 ? '-' : '0');
        }
    }

    private static int[] ofForm(int form) {
        int[] signs = new int[9];
        int rest = form;
        for (int k = 0; k < 9; k++) {
            signs[k] = rest % 3 - 1;
            rest /= 3;
        }
        return trimmed(signs);
    }

    private static void allPolynomials() {
        SignRoots x = new SignRoots();
        for (int form = 0; form < 19683 && wrong == 0; form++) {
            int[] p = ofForm(form);
            if (p.length == 0) {
                continue;
            }
            x = form % 8 == 0 ? new SignRoots() : x;
            type(x, p);
            String name = java.util.Arrays.toString(p);
            due("load of " + name, x.load(0), p.length - 1);
            due("form of " + name, x.of(0, 3), form);
            due("signs of " + name, x.of(0, 1), notZero(p));
            due("changes of " + name, x.of(0, 2), changes(p));
            due("share of " + name, x.takenShare(0), share(p));
            for (int a = -1; a <= 1; a++) {
                rootOf(x, p, a, name + " by " + a);
            }
        }
    }

    private static void rootOf(SignRoots x, int[] p, int a, String name) {
        due("isRoot of " + name, x.isRoot(0, a), isRoot(p, a) ? 1 : 0);
        due("tried times of " + name, x.times(0, a, 0), times(p, a));
        due("counted times of " + name, x.times(0, a, 1), times(p, a));
        due("quotients of " + name, x.quotients(0, a), quotients(p, a).size());
        int[] best = best(p, a);
        due("best of " + name, x.best(0, a), best == null ? -9 : form(best));
        x.copy(0, 1);
        due("divide of " + name, x.divide(1, a), best == null ? -9 : best.length - 1);
        due("divided " + name, x.of(1, 3), best == null ? form(p) : form(best));
    }

    private static void allPairs() {
        List<int[]> low = new ArrayList<>();
        for (int form = 0; form < 19683; form++) {
            int[] p = ofForm(form);
            if (p.length > 0 && p.length < 4) {
                low.add(p);
            }
        }
        for (int[] p : low) {
            for (int[] q : low) {
                SignRoots x = new SignRoots();
                type(x, p);
                x.load(0);
                type(x, q);
                x.load(1);
                int[] r = ofForm(random(19683));
                r = r.length == 0 ? p : r;
                type(x, r);
                x.load(2);
                for (int what = 0; what < 2; what++) {
                    String name = "what " + what + " of " + java.util.Arrays.toString(p) + java.util.Arrays.toString(q);
                    due("many, " + name, x.many(0, 1, what), many(p, q, what));
                    due("isIn, " + name, x.isIn(2, 0, 1, what), isIn(r, p, q, what));
                    due("isIn of the first, " + name, x.isIn(0, 0, 1, what), isIn(p, p, q, what));
                }
            }
        }
    }

    // ---- whole objects

    private static final class State {
        int[][] p = {{1}, {1}, {1}, {1}, {1}};
        List<Integer> roots = new ArrayList<>();
        int taken = 0;
        int refused = 0;

        State copy() {
            State copy = new State();
            copy.p = p.clone();
            copy.roots = new ArrayList<>(roots);
            copy.taken = taken;
            copy.refused = refused;
            return copy;
        }
    }

    private static final class Model {
        State now = new State();
        List<State> saved = new ArrayList<>();
        State[] slots = new State[2];
        String buffer = "";

        private static void number(int... numbers) {
            for (int number : numbers) {
                if (number < 0 || number > 4) {
                    throw new IndexOutOfBoundsException();
                }
            }
        }

        private static void within(int value, int least, int most) {
            if (value < least || value > most) {
                throw new IllegalArgumentException();
            }
        }

        private void save() {
            saved.add(now.copy());
            if (saved.size() > 6) {
                saved.remove(0);
            }
        }

        private int refuse(int answer) {
            now.refused++;
            return answer;
        }

        int put(int n, int power, int sign) {
            number(n);
            within(power, 0, 8);
            within(sign, -1, 1);
            save();
            int[] signs = java.util.Arrays.copyOf(now.p[n], 9);
            signs[power] = sign;
            signs = trimmed(signs);
            if (signs.length == 0) {
                return refuse(-9);
            }
            now.p[n] = signs;
            return signs.length - 1;
        }

        int copy(int from, int to) {
            number(from, to);
            save();
            now.p[to] = now.p[from].clone();
            return now.p[to].length - 1;
        }

        int divide(int n, int root) {
            number(n);
            within(root, -1, 1);
            save();
            int[] best = ModelTest.best(now.p[n], root);
            if (best == null) {
                return refuse(-9);
            }
            now.taken++;
            now.p[n] = best.clone();
            return best.length - 1;
        }

        int root(int root) {
            within(root, -9, 9);
            save();
            if (now.roots.size() == 8) {
                return refuse(-9);
            }
            now.roots.add(root);
            return now.roots.size();
        }

        int unroot() {
            save();
            return now.roots.isEmpty() ? refuse(99) : now.roots.remove(now.roots.size() - 1);
        }

        /** The sum of the products of as many roots, turned, as are left out of the power. */
        long coefficient(int power) {
            within(power, 0, 8);
            int degree = now.roots.size();
            long total = 0;
            for (int set = 0; set < 1 << degree; set++) {
                if (Integer.bitCount(set) == degree - power) {
                    long product = 1;
                    for (int i = 0; i < degree; i++) {
                        product *= (set >> i & 1) == 1 ? -now.roots.get(i) : 1;
                    }
                    total += product;
                }
            }
            return total;
        }

        int lower(int n) {
            number(n);
            save();
            int[] signs = new int[9];
            for (int k = 0; k < 9; k++) {
                signs[k] = Long.signum(coefficient(k));
            }
            now.p[n] = trimmed(signs);
            return now.p[n].length - 1;
        }

        int append(int code) {
            within(code, 33, 126);
            if (buffer.length() == 60) {
                throw new IllegalStateException();
            }
            buffer += (char) code;
            return buffer.length();
        }

        int clearBuffer() {
            int length = buffer.length();
            buffer = "";
            return length;
        }

        int firstError() {
            int right = 0;
            while (right < buffer.length() && buffer.substring(0, right + 1).matches("[-+][-+0]{0,8}")) {
                right++;
            }
            return right;
        }

        int load(int n) {
            number(n);
            if (!buffer.matches("[-+][-+0]{0,8}")) {
                throw new IllegalArgumentException();
            }
            save();
            int[] signs = new int[buffer.length()];
            for (int i = 0; i < signs.length; i++) {
                signs[signs.length - 1 - i] = "-0+".indexOf(buffer.charAt(i)) - 1;
            }
            now.p[n] = signs;
            buffer = "";
            return signs.length - 1;
        }

        private int together() {
            int together = 0;
            for (int[] signs : now.p) {
                together += signs.length - 1;
            }
            return together;
        }

        int keep(int slot) {
            within(slot, 0, 1);
            slots[slot] = now.copy();
            return together();
        }

        int goBack(int slot) {
            within(slot, 0, 1);
            if (slots[slot] == null) {
                throw new IllegalStateException();
            }
            save();
            now = slots[slot].copy();
            return together();
        }

        int undo() {
            if (saved.isEmpty()) {
                throw new IllegalStateException();
            }
            now = saved.remove(saved.size() - 1);
            return saved.size();
        }

        int sign(int n, int power) {
            number(n);
            within(power, 0, 8);
            return at(now.p[n], power);
        }

        int of(int n, int what) {
            number(n);
            within(what, 0, 3);
            int[] p = now.p[n];
            return what == 0 ? p.length - 1 : what == 1 ? notZero(p) : what == 2 ? changes(p) : form(p);
        }

        int isRoot(int n, int root) {
            number(n);
            within(root, -1, 1);
            return ModelTest.isRoot(now.p[n], root) ? 1 : 0;
        }

        int times(int n, int root, int what) {
            number(n);
            within(root, -1, 1);
            within(what, 0, 1);
            return ModelTest.times(now.p[n], root);
        }

        int quotients(int n, int root) {
            number(n);
            within(root, -1, 1);
            return ModelTest.quotients(now.p[n], root).size();
        }

        int best(int n, int root) {
            number(n);
            within(root, -1, 1);
            int[] best = ModelTest.best(now.p[n], root);
            return best == null ? -9 : form(best);
        }

        int many(int first, int second, int what) {
            number(first, second);
            within(what, 0, 1);
            return ModelTest.many(now.p[first], now.p[second], what);
        }

        int isIn(int n, int first, int second, int what) {
            number(n, first, second);
            within(what, 0, 1);
            return ModelTest.isIn(now.p[n], now.p[first], now.p[second], what);
        }

        int count(int what) {
            within(what, 0, 7);
            int[] counts = {now.roots.size(), 0, 0, 0, now.taken, now.refused, 0, saved.size()};
            for (int root : now.roots) {
                counts[root > 0 ? 1 : root < 0 ? 2 : 3]++;
            }
            for (int n = 0; n < 5; n++) {
                counts[6] += isRoot(n, 1);
            }
            return counts[what];
        }

        double takenShare(int n) {
            number(n);
            return share(now.p[n]);
        }

        long digest() {
            long hash = 3623;
            List<Long> values = new ArrayList<>();
            for (int what = 0; what < 8; what++) {
                values.add((long) count(what));
            }
            for (int n = 0; n < 5; n++) {
                polynomialValues(values, n);
            }
            for (int pair = 0; pair < 25; pair++) {
                values.add((long) many(pair / 5, pair % 5, 0));
                values.add((long) many(pair / 5, pair % 5, 1));
            }
            for (int power = 0; power < 9; power++) {
                values.add(coefficient(power));
            }
            for (int root : now.roots) {
                values.add((long) root);
            }
            values.add(slots[0] == null ? 0L : 1L);
            values.add(slots[1] == null ? 0L : 1L);
            values.add((long) buffer.length());
            for (char c : buffer.toCharArray()) {
                values.add((long) c);
            }
            for (long value : values) {
                hash = 31 * hash + value;
            }
            return hash;
        }

        private void polynomialValues(List<Long> values, int n) {
            for (int what = 0; what < 4; what++) {
                values.add((long) of(n, what));
            }
            for (int power = 0; power < 9; power++) {
                values.add((long) sign(n, power));
            }
            for (int root = -1; root <= 1; root++) {
                values.add((long) isRoot(n, root));
                values.add((long) times(n, root, 0));
                values.add((long) times(n, root, 1));
                values.add((long) quotients(n, root));
                values.add((long) best(n, root));
            }
            values.add(Double.doubleToLongBits(takenShare(n)));
        }
    }

    // ---- runs of calls

    /** Mostly in range, at times just or far out of it. */
    private static int argument(int least, int most) {
        int kind = random(40);
        if (kind == 0) {
            return least - 1;
        }
        if (kind == 1) {
            return most + 1;
        }
        if (kind == 2) {
            int[] far = {Integer.MIN_VALUE, Integer.MAX_VALUE, -100, 100};
            return far[random(4)];
        }
        return least + random(most - least + 1);
    }

    private static int code() {
        return random(12) == 0 ? argument(33, 126) : "++++---00".charAt(random(9));
    }

    private static void randomRun(int run) {
        SignRoots x = new SignRoots();
        Model model = new Model();
        boolean mostlyTyping = run % 10 == 0;
        for (int call = 0; call < CALLS && wrong < 20; call++) {
            int kind = mostlyTyping && random(4) > 0 ? 6 : random(30);
            int[] a = arguments(kind);
            String name = "run " + run + ", call " + call + ", kind " + kind + " " + java.util.Arrays.toString(a);
            due(name, outcome(x, kind, a), outcome(model, kind, a));
            due(name + ", digest then", x.digest(), model.digest());
        }
    }

    private static int[] arguments(int kind) {
        int n = argument(0, 4);
        int sign = argument(-1, 1);
        switch (kind) {
            case 0: case 24: case 25: return new int[] {n, argument(0, 8), sign};
            case 1: return new int[] {n, argument(0, 4)};
            case 2: case 13: case 17: case 18: case 26: return new int[] {n, sign};
            case 3: case 27: return new int[] {argument(-9, 9)};
            case 5: case 9: case 22: case 28: return new int[] {n};
            case 6: return new int[] {code()};
            case 10: case 11: return new int[] {argument(0, 1)};
            case 14: return new int[] {n, argument(0, 8)};
            case 15: return new int[] {n, argument(0, 3)};
            case 16: return new int[] {n, sign, argument(0, 1)};
            case 19: return new int[] {n, argument(0, 4), argument(0, 1)};
            case 20: return new int[] {n, argument(0, 4), argument(0, 4), argument(0, 1)};
            case 21: return new int[] {argument(0, 8)};
            case 23: return new int[] {argument(0, 7)};
            default: return new int[0];
        }
    }

    private static String outcome(SignRoots x, int kind, int[] a) {
        try {
            switch (kind) {
                case 0: case 24: case 25: return "" + x.put(a[0], a[1], a[2]);
                case 1: return "" + x.copy(a[0], a[1]);
                case 2: case 26: return "" + x.divide(a[0], a[1]);
                case 3: case 27: return "" + x.root(a[0]);
                case 4: return "" + x.unroot();
                case 5: return "" + x.lower(a[0]);
                case 6: return "" + x.append(a[0]);
                case 7: return "" + x.clearBuffer();
                case 8: return "" + x.firstError();
                case 9: case 28: return "" + x.load(a[0]);
                case 10: return "" + x.keep(a[0]);
                case 11: return "" + x.goBack(a[0]);
                case 12: return "" + x.undo();
                case 13: return "" + x.isRoot(a[0], a[1]);
                case 14: return "" + x.sign(a[0], a[1]);
                case 15: return "" + x.of(a[0], a[1]);
                case 16: return "" + x.times(a[0], a[1], a[2]);
                case 17: return "" + x.quotients(a[0], a[1]);
                case 18: return "" + x.best(a[0], a[1]);
                case 19: return "" + x.many(a[0], a[1], a[2]);
                case 20: return "" + x.isIn(a[0], a[1], a[2], a[3]);
                case 21: return "" + x.coefficient(a[0]);
                case 22: return "" + x.takenShare(a[0]);
                case 23: return "" + x.count(a[0]);
                default: return "" + x.digest();
            }
        } catch (RuntimeException e) {
            return e.getClass().getSimpleName();
        }
    }

    private static String outcome(Model x, int kind, int[] a) {
        try {
            switch (kind) {
                case 0: case 24: case 25: return "" + x.put(a[0], a[1], a[2]);
                case 1: return "" + x.copy(a[0], a[1]);
                case 2: case 26: return "" + x.divide(a[0], a[1]);
                case 3: case 27: return "" + x.root(a[0]);
                case 4: return "" + x.unroot();
                case 5: return "" + x.lower(a[0]);
                case 6: return "" + x.append(a[0]);
                case 7: return "" + x.clearBuffer();
                case 8: return "" + x.firstError();
                case 9: case 28: return "" + x.load(a[0]);
                case 10: return "" + x.keep(a[0]);
                case 11: return "" + x.goBack(a[0]);
                case 12: return "" + x.undo();
                case 13: return "" + x.isRoot(a[0], a[1]);
                case 14: return "" + x.sign(a[0], a[1]);
                case 15: return "" + x.of(a[0], a[1]);
                case 16: return "" + x.times(a[0], a[1], a[2]);
                case 17: return "" + x.quotients(a[0], a[1]);
                case 18: return "" + x.best(a[0], a[1]);
                case 19: return "" + x.many(a[0], a[1], a[2]);
                case 20: return "" + x.isIn(a[0], a[1], a[2], a[3]);
                case 21: return "" + x.coefficient(a[0]);
                case 22: return "" + x.takenShare(a[0]);
                case 23: return "" + x.count(a[0]);
                default: return "" + x.digest();
            }
        } catch (RuntimeException e) {
            return e.getClass().getSimpleName();
        }
    }
}
