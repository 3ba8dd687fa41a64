/**
 * Sums of signs that can have several values, and roots of polynomials of signs: five polynomials
 * whose coefficients are signs, a polynomial of whole numbers that is told by its roots, a buffer
 * of text, two snapshots, and up to six states to undo to.
 *
 * <p>All rows are made in the constructor and used again, so that no call makes anything but the
 * exception that it throws.
 */
public final class SignRoots {
    /** There is nothing to return. */
    public static final int NONE = -9;

    private static final int POLYNOMIALS = 5;
    private static final int SIGNS = 9;
    private static final int HIGHEST_POWER = 8;
    private static final int MOST_ROOTS = 8;
    private static final int LARGEST_ROOT = 9;
    private static final int NO_ROOT = 99;
    private static final int BUFFER_ROOM = 60;
    private static final int SLOTS = 2;
    private static final int MOST_SAVED = 6;
    private static final int COUNTS = 8;

    /** Far above the steps that the quotients of any polynomial need. */
    private static final int MANY_STEPS = 1000000;

    /** Nothing is known yet of how often a root can be taken out. */
    private static final int UNKNOWN = -1;

    /** The marks of the signs in a sum; a sum with both marks has all three signs. */
    private static final int PLUS = 1;

    private static final int MINUS = 2;
    private static final int ALL_SIGNS = PLUS | MINUS;

    private static final long HASH_START = 3623;
    private static final int EXPONENT_OF_ONE = 1023;
    private static final int FRACTION_BITS = 52;

    private final State now = new State();
    private final State[] saved = new State[MOST_SAVED];
    private int savedStates = 0;
    private final State[] slots = new State[SLOTS];
    private final boolean[] kept = new boolean[SLOTS];
    private final int[] buffer = new int[BUFFER_ROOM];
    private int bufferLength = 0;
    private final long[] whole = new long[SIGNS];
    private final Division[] divisions = new Division[SIGNS];
    private final Tried tried = new Tried();

    /** Creates polynomials that are 1, without whole roots, with empty slots and an empty buffer. */
    public SignRoots() {
        for (int i = 0; i < MOST_SAVED; i++) {
            saved[i] = new State();
        }
        for (int i = 0; i < SLOTS; i++) {
            slots[i] = new State();
        }
        for (int i = 0; i < SIGNS; i++) {
            divisions[i] = new Division();
        }
    }

    // ---- polynomials

    /** Changes a sign of a polynomial; returns its degree then, NONE if all signs would be 0. */
    public int put(int number, int power, int sign)
            throws IndexOutOfBoundsException, IllegalArgumentException {
        checkNumber(number);
        checkPower(power);
        checkSign(sign);
        save();
        int[] row = now.signs[number];
        if (sign == 0 && isAloneNotZero(row, power)) {
            now.refused++;
            return NONE;
        }
        row[power] = sign;
        return degreeOf(row);
    }

    /** Copies a polynomial in place of another one; returns the degree. */
    public int copy(int from, int to) throws IndexOutOfBoundsException {
        checkNumber(from);
        checkNumber(to);
        save();
        System.arraycopy(now.signs[from], 0, now.signs[to], 0, SIGNS);
        return degreeOf(now.signs[to]);
    }

    /** Puts the best quotient in place of a polynomial; returns its degree, NONE without one. */
    public int divide(int number, int root)
            throws IndexOutOfBoundsException, IllegalArgumentException {
        checkNumber(number);
        checkSign(root);
        save();
        int[] row = now.signs[number];
        if (tryQuotients(row, root, divisions, tried, 0) == 0) {
            now.refused++;
            return NONE;
        }
        System.arraycopy(divisions[0].bestRow, 0, row, 0, SIGNS);
        now.taken++;
        return degreeOf(row);
    }

    // ---- whole roots

    /** Adds a root to the whole polynomial; returns its degree then, NONE if there are 8. */
    public int root(int root) throws IllegalArgumentException {
        if (root < -LARGEST_ROOT || root > LARGEST_ROOT) {
            throw new IllegalArgumentException("a root is -9 to 9");
        }
        save();
        if (now.rootCount >= MOST_ROOTS) {
            now.refused++;
            return NONE;
        }
        now.roots[now.rootCount] = root;
        now.rootCount++;
        return now.rootCount;
    }

    /** Takes the last root of the whole polynomial away; returns it, 99 if there is none. */
    public int unroot() {
        save();
        if (now.rootCount <= 0) {
            now.refused++;
            return NO_ROOT;
        }
        now.rootCount--;
        return now.roots[now.rootCount];
    }

    /** Puts the signs of the whole polynomial in place of a polynomial; returns its degree. */
    public int lower(int number) throws IndexOutOfBoundsException {
        checkNumber(number);
        save();
        expandWhole();
        int[] row = now.signs[number];
        for (int power = 0; power < SIGNS; power++) {
            row[power] = signOf(whole[power]);
        }
        return degreeOf(row);
    }

    // ---- texts, snapshots

    /** Appends a character to the buffer; returns the new length. */
    public int append(int code) throws IllegalArgumentException, IllegalStateException {
        if (code < 33 || code > 126) {
            throw new IllegalArgumentException("a character code is 33 to 126");
        }
        if (bufferLength >= BUFFER_ROOM) {
            throw new IllegalStateException("the buffer is full");
        }
        buffer[bufferLength] = code;
        bufferLength++;
        return bufferLength;
    }

    /** Clears the buffer; returns the length that it had. */
    public int clearBuffer() {
        int length = bufferLength;
        bufferLength = 0;
        return length;
    }

    /** Finds the first syntax error of the buffer; returns its index, the length without one. */
    public int firstError() {
        return errorPlace();
    }

    /** Takes the polynomial of the buffer in place of one, and clears the buffer. */
    public int load(int number) throws IndexOutOfBoundsException, IllegalArgumentException {
        checkNumber(number);
        if (bufferLength == 0 || errorPlace() < bufferLength) {
            throw new IllegalArgumentException("the buffer tells no polynomial");
        }
        save();
        int[] row = now.signs[number];
        for (int power = 0; power < SIGNS; power++) {
            row[power] = power < bufferLength ? signOfCode(buffer[bufferLength - 1 - power]) : 0;
        }
        bufferLength = 0;
        return degreeOf(row);
    }

    /** Takes a snapshot into a slot; returns the degrees of all polynomials, together. */
    public int keep(int slot) throws IllegalArgumentException {
        checkSlot(slot);
        slots[slot].takeOver(now);
        kept[slot] = true;
        return degreesTogether();
    }

    /** Goes back to a snapshot, which stays; returns all degrees then, together. */
    public int goBack(int slot) throws IllegalArgumentException, IllegalStateException {
        checkSlot(slot);
        if (!kept[slot]) {
            throw new IllegalStateException("the slot is empty");
        }
        save();
        now.takeOver(slots[slot]);
        return degreesTogether();
    }

    /** Restores the latest saved state, and drops it; returns how many are left. */
    public int undo() throws IllegalStateException {
        if (savedStates <= 0) {
            throw new IllegalStateException("there is no saved state");
        }
        savedStates--;
        now.takeOver(saved[savedStates]);
        return savedStates;
    }

    // ---- looks; nothing is changed

    /** Returns a sign of a polynomial. */
    public int sign(int number, int power)
            throws IndexOutOfBoundsException, IllegalArgumentException {
        checkNumber(number);
        checkPower(power);
        return now.signs[number][power];
    }

    /** Returns 0: the degree, 1: signs that are not 0, 2: changes, 3: the form as one number. */
    public int of(int number, int what)
            throws IndexOutOfBoundsException, IllegalArgumentException {
        checkNumber(number);
        checkWhat(what, 4);
        int[] row = now.signs[number];
        switch (what) {
            case 0:
                return degreeOf(row);
            case 1:
                return notZero(row);
            case 2:
                return changesOf(row, 1);
            default:
                return formOf(row);
        }
    }

    /** Returns 1 if a sign is a root of a polynomial, otherwise 0. */
    public int isRoot(int number, int root)
            throws IndexOutOfBoundsException, IllegalArgumentException {
        checkNumber(number);
        checkSign(root);
        return hasRoot(now.signs[number], root) ? 1 : 0;
    }

    /** Tells how often a sign can be taken out, 0: by trying all quotients, 1: by counting. */
    public int times(int number, int root, int what)
            throws IndexOutOfBoundsException, IllegalArgumentException {
        checkNumber(number);
        checkSign(root);
        checkWhat(what, 2);
        int[] row = now.signs[number];
        return what == 0
                ? tryQuotients(row, root, divisions, tried, 0)
                : countedTimes(row, root);
    }

    /** Tells how many quotients by a root a polynomial has. */
    public int quotients(int number, int root)
            throws IndexOutOfBoundsException, IllegalArgumentException {
        checkNumber(number);
        checkSign(root);
        return quotientsOf(now.signs[number], root);
    }

    /** Returns the form of the best quotient, as for of(); NONE if there is none. */
    public int best(int number, int root)
            throws IndexOutOfBoundsException, IllegalArgumentException {
        checkNumber(number);
        checkSign(root);
        return bestForm(tryQuotients(now.signs[number], root, divisions, tried, 0));
    }

    /** Tells how many rows of signs 0: a sum, 1: a product has; NONE above degree 8. */
    public int many(int first, int second, int what)
            throws IndexOutOfBoundsException, IllegalArgumentException {
        checkNumber(first);
        checkNumber(second);
        checkWhat(what, 2);
        return rowsOf(now.signs[first], now.signs[second], what);
    }

    /** Returns 1 if a polynomial is in 0: the sum, 1: the product of two ones, otherwise 0. */
    public int isIn(int number, int first, int second, int what)
            throws IndexOutOfBoundsException, IllegalArgumentException {
        checkNumber(number);
        checkNumber(first);
        checkNumber(second);
        checkWhat(what, 2);
        return isAmong(now.signs[number], now.signs[first], now.signs[second], what) ? 1 : 0;
    }

    /** Returns a coefficient of the whole polynomial; 0 above its degree. */
    public long coefficient(int power) throws IllegalArgumentException {
        checkPower(power);
        expandWhole();
        return whole[power];
    }

    /** Returns a number: see the document for what 0 to 7 stand for. */
    public int count(int what) throws IllegalArgumentException {
        checkWhat(what, COUNTS);
        switch (what) {
            case 0:
                return now.rootCount;
            case 1:
                return rootsOfSign(1);
            case 2:
                return rootsOfSign(-1);
            case 3:
                return rootsOfSign(0);
            case 4:
                return now.taken;
            case 5:
                return now.refused;
            case 6:
                return withRootOne();
            default:
                return savedStates;
        }
    }

    /** Returns how often 1, -1 and 0 can be taken out, divided by the degree; 1.0 for degree 0. */
    public double takenShare(int number) throws IndexOutOfBoundsException {
        checkNumber(number);
        return shareOf(now.signs[number]);
    }

    /** Computes a hash of the whole state. */
    public long digest() {
        long hash = HASH_START;
        for (int what = 0; what < COUNTS; what++) {
            hash = mixed(hash, count(what));
        }
        for (int number = 0; number < POLYNOMIALS; number++) {
            hash = mixedPolynomial(hash, now.signs[number]);
        }
        hash = mixedPairs(hash);
        hash = mixedWhole(hash);
        return mixedTexts(hash);
    }

    // ---- what the arguments must be

    private static void checkNumber(int number) throws IndexOutOfBoundsException {
        if (number < 0 || number >= POLYNOMIALS) {
            throw new IndexOutOfBoundsException("there is no such polynomial");
        }
    }

    private static void checkPower(int power) throws IllegalArgumentException {
        if (power < 0 || power > HIGHEST_POWER) {
            throw new IllegalArgumentException("a power is 0 to 8");
        }
    }

    private static void checkSign(int sign) throws IllegalArgumentException {
        if (sign < -1 || sign > 1) {
            throw new IllegalArgumentException("a sign is -1, 0 or 1");
        }
    }

    private static void checkSlot(int slot) throws IllegalArgumentException {
        if (slot < 0 || slot >= SLOTS) {
            throw new IllegalArgumentException("a slot is 0 or 1");
        }
    }

    private static void checkWhat(int what, int kinds) throws IllegalArgumentException {
        if (what < 0 || what >= kinds) {
            throw new IllegalArgumentException("there is no such thing to tell");
        }
    }

    // ---- saved states

    private void save() {
        if (savedStates >= MOST_SAVED) {
            dropOldest();
        }
        saved[savedStates].takeOver(now);
        savedStates++;
    }

    /** The dropped state goes to the end of the row, to be filled again. */
    private void dropOldest() {
        State oldest = saved[0];
        for (int i = 1; i < MOST_SAVED; i++) {
            saved[i - 1] = saved[i];
        }
        saved[MOST_SAVED - 1] = oldest;
        savedStates--;
    }

    // ---- sums and products of signs

    private static int signOf(long value) {
        return value > 0 ? 1 : value < 0 ? -1 : 0;
    }

    /** A sum of signs is told by the marks of all its signs, joined. */
    private static int markOf(int sign) {
        return sign > 0 ? PLUS : sign < 0 ? MINUS : 0;
    }

    private static boolean holds(int marks, int sign) {
        return marks == ALL_SIGNS || marks == markOf(sign);
    }

    private static int sumMarks(int[] first, int[] second, int power) {
        return markOf(first[power]) | markOf(second[power]);
    }

    private static int productMarks(int[] first, int[] second, int power) {
        int marks = 0;
        for (int i = 0; i <= power; i++) {
            marks |= markOf(first[i] * second[power - i]);
        }
        return marks;
    }

    private static int marksAt(int[] first, int[] second, int what, int power) {
        return what == 0 ? sumMarks(first, second, power) : productMarks(first, second, power);
    }

    private static boolean isTooHigh(int[] first, int[] second, int what) {
        return what == 1 && degreeOf(first) + degreeOf(second) > HIGHEST_POWER;
    }

    private static int rowsOf(int[] first, int[] second, int what) {
        if (isTooHigh(first, second, what)) {
            return NONE;
        }
        int rows = 1;
        for (int power = 0; power < SIGNS; power++) {
            if (marksAt(first, second, what, power) == ALL_SIGNS) {
                rows *= 3;
            }
        }
        return rows;
    }

    private static boolean isAmong(int[] row, int[] first, int[] second, int what) {
        if (isTooHigh(first, second, what)) {
            return false;
        }
        for (int power = 0; power < SIGNS; power++) {
            if (!holds(marksAt(first, second, what, power), row[power])) {
                return false;
            }
        }
        return true;
    }

    // ---- polynomials of signs

    private static int degreeOf(int[] row) {
        for (int power = HIGHEST_POWER; power > 0; power--) {
            if (row[power] != 0) {
                return power;
            }
        }
        return 0;
    }

    private static int notZero(int[] row) {
        int found = 0;
        for (int power = 0; power < SIGNS; power++) {
            if (row[power] != 0) {
                found++;
            }
        }
        return found;
    }

    private static boolean isAloneNotZero(int[] row, int power) {
        return row[power] != 0 && notZero(row) == 1;
    }

    private static int formOf(int[] row) {
        int form = 0;
        for (int power = HIGHEST_POWER; power >= 0; power--) {
            form = 3 * form + row[power] + 1;
        }
        return form;
    }

    /** A sign to the power 0 is 1, also for 0. */
    private static int powerOf(int sign, int power) {
        if (power == 0) {
            return 1;
        }
        return power % 2 == 0 ? sign * sign : sign;
    }

    private static boolean hasRoot(int[] row, int root) {
        int marks = 0;
        for (int power = 0; power < SIGNS; power++) {
            marks |= markOf(row[power] * powerOf(root, power));
        }
        return holds(marks, 0);
    }

    /** Counts the changes; for the root -1 those when the signs of odd powers are turned. */
    private static int changesOf(int[] row, int root) {
        int changes = 0;
        int last = 0;
        for (int power = 0; power < SIGNS; power++) {
            int sign = row[power] * powerOf(root, power);
            if (sign != 0) {
                if (last != 0 && sign != last) {
                    changes++;
                }
                last = sign;
            }
        }
        return changes;
    }

    private static int zerosBelow(int[] row) {
        int zeros = 0;
        for (int power = 0; power < SIGNS && row[power] == 0; power++) {
            zeros++;
        }
        return zeros;
    }

    private static int countedTimes(int[] row, int root) {
        return root == 0 ? zerosBelow(row) : changesOf(row, root);
    }

    private static double shareOf(int[] row) {
        int degree = degreeOf(row);
        if (degree == 0) {
            return 1.0;
        }
        int together = countedTimes(row, 1) + countedTimes(row, -1) + countedTimes(row, 0);
        return (double) together / degree;
    }

    // ---- quotients

    private int quotientsOf(int[] row, int root) {
        Division division = divisions[0];
        division.start(row, root);
        int found = 0;
        for (int i = 0; i < MANY_STEPS && division.advance(); i++) {
            found++;
        }
        return found;
    }

    /** The first division remembers the best quotient when the quotients have been tried. */
    private int bestForm(int times) {
        return times == 0 ? NONE : formOf(divisions[0].bestRow);
    }

    /**
     * Tries all quotients, each with all its own quotients, a division for each depth. What is known
     * of a quotient from another chain, or an earlier call, isn't tried again.
     */
    private static int tryQuotients(
            int[] row, int root, Division[] divisions, Tried tried, int depth) {
        if (depth >= divisions.length) {
            return 0;
        }
        int most = 0;
        Division division = divisions[depth];
        division.start(row, root);
        for (int i = 0; i < MANY_STEPS && division.advance(); i++) {
            int form = formOf(division.quotient);
            int below = tried.timesOf(form, root);
            if (below == UNKNOWN) {
                below = tryQuotients(division.quotient, root, divisions, tried, depth + 1);
                tried.remember(form, root, below);
            }
            if (below + 1 > most) {
                most = below + 1;
                division.rememberBest();
            }
        }
        return most;
    }

    // ---- the whole polynomial

    /** Multiplies (x less root) out for all roots, into the row of coefficients. */
    private void expandWhole() {
        for (int power = 0; power < SIGNS; power++) {
            whole[power] = 0;
        }
        whole[0] = 1;
        for (int i = 0; i < now.rootCount && i < MOST_ROOTS; i++) {
            for (int power = i + 1; power > 0; power--) {
                whole[power] = whole[power - 1] - now.roots[i] * whole[power];
            }
            whole[0] = -now.roots[i] * whole[0];
        }
    }

    private int rootsOfSign(int sign) {
        int found = 0;
        for (int i = 0; i < now.rootCount && i < MOST_ROOTS; i++) {
            if (signOf(now.roots[i]) == sign) {
                found++;
            }
        }
        return found;
    }

    // ---- the buffer

    private int errorPlace() {
        for (int i = 0; i < bufferLength && i < BUFFER_ROOM; i++) {
            if (i >= SIGNS || !isSignCode(buffer[i]) || (i == 0 && buffer[i] == '0')) {
                return i;
            }
        }
        return bufferLength;
    }

    private static boolean isSignCode(int code) {
        return code == '+' || code == '-' || code == '0';
    }

    private static int signOfCode(int code) {
        return code == '+' ? 1 : code == '-' ? -1 : 0;
    }

    // ---- numbers of all polynomials

    private int degreesTogether() {
        int together = 0;
        for (int number = 0; number < POLYNOMIALS; number++) {
            together += degreeOf(now.signs[number]);
        }
        return together;
    }

    private int withRootOne() {
        int found = 0;
        for (int number = 0; number < POLYNOMIALS; number++) {
            if (hasRoot(now.signs[number], 1)) {
                found++;
            }
        }
        return found;
    }

    // ---- the hash

    private static long mixed(long hash, long value) {
        return 31 * hash + value;
    }

    private long mixedPolynomial(long start, int[] row) {
        long hash = mixed(start, degreeOf(row));
        hash = mixed(hash, notZero(row));
        hash = mixed(hash, changesOf(row, 1));
        hash = mixed(hash, formOf(row));
        for (int power = 0; power < SIGNS; power++) {
            hash = mixed(hash, row[power]);
        }
        for (int root = -1; root <= 1; root++) {
            int times = tryQuotients(row, root, divisions, tried, 0);
            int best = bestForm(times);
            hash = mixed(hash, hasRoot(row, root) ? 1 : 0);
            hash = mixed(hash, times);
            hash = mixed(hash, countedTimes(row, root));
            hash = mixed(hash, quotientsOf(row, root));
            hash = mixed(hash, best);
        }
        return mixed(hash, bitsOf(shareOf(row)));
    }

    private long mixedPairs(long start) {
        long hash = start;
        for (int first = 0; first < POLYNOMIALS; first++) {
            for (int second = 0; second < POLYNOMIALS; second++) {
                hash = mixed(hash, rowsOf(now.signs[first], now.signs[second], 0));
                hash = mixed(hash, rowsOf(now.signs[first], now.signs[second], 1));
            }
        }
        return hash;
    }

    private long mixedWhole(long start) {
        long hash = start;
        expandWhole();
        for (int power = 0; power < SIGNS; power++) {
            hash = mixed(hash, whole[power]);
        }
        for (int i = 0; i < now.rootCount && i < MOST_ROOTS; i++) {
            hash = mixed(hash, now.roots[i]);
        }
        return hash;
    }

    private long mixedTexts(long start) {
        long hash = start;
        for (int slot = 0; slot < SLOTS; slot++) {
            hash = mixed(hash, kept[slot] ? 1 : 0);
        }
        hash = mixed(hash, bufferLength);
        for (int i = 0; i < bufferLength && i < BUFFER_ROOM; i++) {
            hash = mixed(hash, buffer[i]);
        }
        return hash;
    }

    /**
     * The bits of a share, 0.0 to 1.0, as Double.doubleToLongBits has them, which is not in the
     * library that the program keeps to: all steps on the double are exact.
     */
    private static long bitsOf(double share) {
        if (share <= 0.0) {
            return 0;
        }
        double scaled = share;
        long exponent = EXPONENT_OF_ONE;
        for (int i = 0; i < EXPONENT_OF_ONE && scaled < 1.0; i++) {
            scaled = scaled * 2.0;
            exponent--;
        }
        long fraction = (long) ((scaled - 1.0) * (double) (1L << FRACTION_BITS));
        return (exponent << FRACTION_BITS) + fraction;
    }

    /** All that a snapshot holds, and all that is saved to undo to. */
    private static final class State {
        final int[][] signs = new int[POLYNOMIALS][SIGNS];
        final int[] roots = new int[MOST_ROOTS];
        int rootCount = 0;
        int taken = 0;
        int refused = 0;

        State() {
            for (int number = 0; number < POLYNOMIALS; number++) {
                signs[number][0] = 1;
            }
        }

        void takeOver(State other) {
            for (int number = 0; number < POLYNOMIALS; number++) {
                System.arraycopy(other.signs[number], 0, signs[number], 0, SIGNS);
            }
            System.arraycopy(other.roots, 0, roots, 0, MOST_ROOTS);
            rootCount = other.rootCount;
            taken = other.taken;
            refused = other.refused;
        }
    }

    /** Goes through the quotients of a polynomial, in the order in which they are compared. */
    private static final class Division {
        /** Below the first sign that is tried. */
        private static final int UNTRIED = -2;

        final int[] dividend = new int[SIGNS];
        final int[] quotient = new int[SIGNS];
        final int[] bestRow = new int[SIGNS];
        private int root = 0;
        private int highest = -1;

        /** The power whose sign is tried next; -1 if no quotient is left. */
        private int place = -1;

        void start(int[] row, int root) {
            for (int power = 0; power < SIGNS; power++) {
                dividend[power] = row[power];
                quotient[power] = 0;
            }
            this.root = root;
            highest = degreeOf(row) - 1;
            place = highest < 0 ? -1 : 0;
            quotient[0] = highest < 0 ? 0 : UNTRIED;
        }

        /** Goes on to the next quotient; false if there is none any more. */
        boolean advance() {
            for (int step = 0; step < MANY_STEPS && place >= 0; step++) {
                if (quotient[place] >= 1) {
                    place--;
                } else {
                    quotient[place]++;
                    boolean fitting = fits(place);
                    if (fitting && place < highest) {
                        place++;
                        quotient[place] = UNTRIED;
                    } else if (fitting && quotient[highest] != 0 && fits(highest + 1)) {
                        return true;
                    }
                }
            }
            return false;
        }

        void rememberBest() {
            System.arraycopy(quotient, 0, bestRow, 0, SIGNS);
        }

        /** Whether the dividend's sign of the power can come from the quotient's signs. */
        private boolean fits(int power) {
            int below = power == 0 ? 0 : quotient[power - 1];
            int marks = markOf(below) | markOf(-root * quotient[power]);
            return holds(marks, dividend[power]);
        }
    }

    /**
     * How often each root can be taken out of the quotients that have been tried. The chains of one
     * polynomial have up to 8,187 quotients, but only up to 314 different ones. This never changes
     * with the state, so it's never forgotten. It is held in four bits each, to keep the object small.
     */
    private static final class Tried {
        /** The forms of quotients begin here, as their sign of the power 8 is 0. */
        private static final int LEAST_FORM = 6561;

        private static final int FORMS = 6561;
        private static final int ROOTS = 3;
        private static final int PLACES = FORMS * ROOTS;
        private static final int BITS = 4;
        private static final int PLACES_IN_ONE = 16;
        private static final long MASK = 15;

        /** At each place 1 more than how often; 0 if it is not known. */
        private final long[] packed = new long[PLACES / PLACES_IN_ONE + 1];

        int timesOf(int form, int root) {
            int place = placeOf(form, root);
            if (place < 0 || place >= PLACES) {
                return UNKNOWN;
            }
            long held = packed[place / PLACES_IN_ONE] >>> (place % PLACES_IN_ONE * BITS);
            return (int) (held & MASK) - 1;
        }

        void remember(int form, int root, int times) {
            int place = placeOf(form, root);
            if (place >= 0 && place < PLACES) {
                packed[place / PLACES_IN_ONE] |= (times + 1L) << (place % PLACES_IN_ONE * BITS);
            }
        }

        private static int placeOf(int form, int root) {
            return (form - LEAST_FORM) * ROOTS + root + 1;
        }
    }
}
