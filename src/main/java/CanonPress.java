/**
 * A press for numbers and documents: numerals become binary64 numbers and go back to the shortest
 * numerals; JSON documents are read, kept on shelves, patched, compared and put into canonical form.
 */
public final class CanonPress {
    public static final int NONE = -1;

    private static final int NO_POINTER = -2;
    private static final int NO_PATCH = -2;

    private static final int SHELVES = 8;
    private static final int TAPE_BYTES = 2000;
    private static final int FED_BYTES = 20;
    private static final int OUT_BYTES = 12000;
    private static final int VALUES = 500;
    private static final int SHELF_BYTES = 4000;
    private static final int DEEPEST = 30;
    private static final int ROUND_DIGITS = 800;

    private static final int NULL = 0;
    private static final int FALSE = 1;
    private static final int TRUE = 2;
    private static final int NUMBER = 3;
    private static final int STRING = 4;
    private static final int ARRAY = 5;
    private static final int OBJECT = 6;

    private static final long NO_NUMBER = 9221120237041090560L;
    private static final long ENDLESS = 0x7FF0000000000000L;
    private static final long SIGN = 0x8000000000000000L;
    private static final long FRACTION = 0x000FFFFFFFFFFFFFL;
    private static final long HIDDEN = 0x0010000000000000L;
    private static final int FRACTION_BITS = 52;
    private static final int LEAST_TWOS = -1074;
    private static final int HIGHEST_BIT = 1023;

    private static final int BACKSLASH = 92;
    private static final int BILLION_DIGITS = 9;
    private static final int[] TENS = {
        1, 10, 100, 1000, 10000, 100000, 1000000, 10000000, 100000000, 1000000000
    };

    private final Text tape = new Text();
    private final Out written = new Out();
    private final Numeral scanner = new Numeral();
    private final Printer printer = new Printer();
    private final Reader reader = new Reader(tape, scanner);
    private final Former former = new Former(printer);
    private final Pointer pointer = new Pointer();
    private final Weaver weaver = new Weaver();
    private final Tree[] shelves = new Tree[SHELVES];
    private Tree spare = new Tree();
    private int faultAt = NONE;

    public CanonPress() {
        for (int i = 0; i < SHELVES; i++) {
            shelves[i] = new Tree();
        }
    }

    public int feed(int a, int b, int c, int d, int e) {
        if (tape.length > TAPE_BYTES - FED_BYTES) {
            return NONE;
        }
        tape.push(a);
        tape.push(b);
        tape.push(c);
        tape.push(d);
        tape.push(e);
        return tape.length;
    }

    public int end(int n) {
        if (n < 0 || n > tape.length) {
            return NONE;
        }
        tape.length = n;
        return n;
    }

    public int take() {
        int kept = written.keptBytes();
        if (kept > TAPE_BYTES) {
            return NONE;
        }
        System.arraycopy(written.kept, 0, tape.bytes, 0, kept);
        tape.length = kept;
        return kept;
    }

    public long numeral() {
        tape.at = 0;
        boolean whole = scanner.scan(tape) && tape.at == tape.length;
        tape.clear();
        return whole ? scanner.toBits() : NO_NUMBER;
    }

    public int print(long bits) {
        if (!isNumber(bits)) {
            return NONE;
        }
        written.clear();
        printer.putShortest(bits, written);
        return written.total;
    }

    public int round(long bits, int d) {
        if (!isNumber(bits) || d < 1 || d > ROUND_DIGITS) {
            return NONE;
        }
        written.clear();
        printer.putRounded(bits, d, written);
        return written.total;
    }

    public int out(int i) {
        return i < 0 || i >= written.keptBytes() ? NONE : written.kept[i] & 255;
    }

    public int document(int shelf) {
        if (!isShelf(shelf)) {
            return NONE;
        }
        int fault = reader.read(spare);
        faultAt = fault == 0 ? NONE : reader.faultAt;
        tape.clear();
        if (fault == 0) {
            bringSpareTo(shelf);
        }
        return fault;
    }

    public int place() {
        return faultAt;
    }

    public int form(int shelf, int number) {
        if (!hasValue(shelf, number)) {
            return NONE;
        }
        written.clear();
        former.write(shelves[shelf], number, written);
        return written.total;
    }

    public int value(int shelf, int number, int what) {
        if (!hasValue(shelf, number)) {
            return NONE;
        }
        Tree tree = shelves[shelf];
        switch (what) {
            case 0: return tree.kind[number];
            case 1: return tree.many[number];
            case 2: return tree.owner[number];
            case 3: return tree.order[number];
            case 4: return tree.size[number];
            case 5: return tree.depth[number];
            default: return NONE;
        }
    }

    public long bits(int shelf, int number) {
        if (!hasValue(shelf, number) || shelves[shelf].kind[number] != NUMBER) {
            return 0;
        }
        return shelves[shelf].number[number];
    }

    public int character(int shelf, int number, int which, int i) {
        if (!hasValue(shelf, number)) {
            return NONE;
        }
        Tree tree = shelves[shelf];
        if (which == 0) {
            return tree.nameCharacter(number, i);
        }
        return which == 1 ? tree.textCharacter(number, i) : NONE;
    }

    public int point(int shelf) {
        boolean good = pointer.decode(tape);
        tape.clear();
        if (!good || !hasDocument(shelf)) {
            return NO_POINTER;
        }
        return pointer.find(shelves[shelf]);
    }

    public int same(int shelf, int number, int other, int its) {
        if (!hasValue(shelf, number) || !hasValue(other, its)) {
            return NONE;
        }
        return shelves[shelf].isAlike(number, shelves[other], its) ? 1 : 0;
    }

    public int merge(int target, int patch, int to) {
        if (!hasDocument(target) || !hasDocument(patch) || !isShelf(to)) {
            return NONE;
        }
        weaver.make(shelves[target], shelves[patch], spare, false);
        return bringIfItFits(to);
    }

    public int patch(int from, int into, int to) {
        if (!hasDocument(from) || !hasDocument(into) || !isShelf(to)) {
            return NONE;
        }
        weaver.make(shelves[from], shelves[into], spare, true);
        return weaver.noPatch ? NO_PATCH : bringIfItFits(to);
    }

    public int part(int shelf, int number, int to) {
        if (!hasValue(shelf, number) || !isShelf(to)) {
            return NONE;
        }
        spare.clear();
        spare.addWhole(shelves[shelf], number, NONE);
        return bringIfItFits(to);
    }

    public int about(int what) {
        switch (what) {
            case 0: return tape.length;
            case 1: return written.keptBytes();
            case 2: return countDocuments();
            default: return NONE;
        }
    }

    private int countDocuments() {
        int found = 0;
        for (int i = 0; i < SHELVES; i++) {
            if (hasDocument(i)) {
                found++;
            }
        }
        return found;
    }

    private static boolean isNumber(long bits) {
        return (bits & ENDLESS) != ENDLESS;
    }

    private static boolean isShelf(int shelf) {
        return shelf >= 0 && shelf < SHELVES;
    }

    private boolean hasDocument(int shelf) {
        return isShelf(shelf) && shelves[shelf].count > 0;
    }

    private boolean hasValue(int shelf, int number) {
        return isShelf(shelf) && number >= 0 && number < shelves[shelf].count;
    }

    private int bringIfItFits(int shelf) {
        if (spare.tooMuch || !isShelf(shelf)) {
            return NONE;
        }
        spare.measure();
        bringSpareTo(shelf);
        return shelves[shelf].count;
    }

    /** What stood on the shelf becomes the next spare, so that no call makes a new tree. */
    private void bringSpareTo(int shelf) {
        Tree old = shelves[shelf];
        shelves[shelf] = spare;
        spare = old;
    }

    /** The TAPE, and the place up to which it has been read. */
    private static final class Text {
        final byte[] bytes = new byte[TAPE_BYTES];
        int length;
        int at;

        void clear() {
            length = 0;
            at = 0;
        }

        void push(int four) {
            for (int shift = 24; shift >= 0 && length < TAPE_BYTES; shift -= 8) {
                bytes[length] = (byte) (four >>> shift);
                length++;
            }
        }

        /** The next byte, 0 .. 255; NONE at the end. */
        int here() {
            return at >= 0 && at < length ? bytes[at] & 255 : NONE;
        }

        boolean pass(int wanted) {
            boolean there = at >= 0 && at < length && (bytes[at] & 255) == wanted;
            if (there) {
                at++;
            }
            return there;
        }

        boolean passWord(String word) {
            for (int i = 0; i < word.length(); i++) {
                if (!pass(word.charAt(i))) {
                    return false;
                }
            }
            return true;
        }

        void skipBlanks() {
            while (at >= 0 && at < length && isBlank(bytes[at])) {
                at++;
            }
        }

        private static boolean isBlank(int b) {
            return b == ' ' || b == '\t' || b == '\n' || b == '\r';
        }

        /** The next CHARACTER of UTF-8; NONE if there is none, and then the place is the byte to blame. */
        int nextCharacter() {
            int lead = here();
            int more = bytesBehind(lead);
            if (more == NONE) {
                return NONE;
            }
            at++;
            int found = more == 0 ? lead : lead & (0x3F >> more);
            int least = lead == 0xE0 ? 0xA0 : lead == 0xF0 ? 0x90 : 0x80;
            int most = lead == 0xED ? 0x9F : lead == 0xF4 ? 0x8F : 0xBF;
            for (int i = 0; i < more; i++) {
                int b = here();
                if (b < least || b > most) {
                    return NONE;
                }
                found = found << 6 | b & 0x3F;
                least = 0x80;
                most = 0xBF;
                at++;
            }
            return found;
        }

        private static int bytesBehind(int lead) {
            if (lead < 0x80) {
                return lead < 0 ? NONE : 0;
            }
            if (lead < 0xC2 || lead > 0xF4) {
                return NONE;
            }
            return lead < 0xE0 ? 1 : lead < 0xF0 ? 2 : 3;
        }
    }

    /** OUT: the first bytes are kept, all are counted. */
    private static final class Out {
        final byte[] kept = new byte[OUT_BYTES];
        int total;

        void clear() {
            total = 0;
        }

        int keptBytes() {
            return Math.min(total, OUT_BYTES);
        }

        void put(int b) {
            if (total >= 0 && total < OUT_BYTES) {
                kept[total] = (byte) b;
            }
            total++;
        }

        void putWord(String word) {
            for (int i = 0; i < word.length(); i++) {
                put(word.charAt(i));
            }
        }

        void putCharacter(int c) {
            if (c < 0x80) {
                put(c);
            } else if (c < 0x800) {
                put(0xC0 | c >> 6);
                put(0x80 | c & 0x3F);
            } else if (c < 0x10000) {
                put(0xE0 | c >> 12);
                put(0x80 | c >> 6 & 0x3F);
                put(0x80 | c & 0x3F);
            } else {
                put(0xF0 | c >> 18);
                put(0x80 | c >> 12 & 0x3F);
                put(0x80 | c >> 6 & 0x3F);
                put(0x80 | c & 0x3F);
            }
        }
    }

    /**
     * A whole number of up to 3072 bits; 800 digits over 5^1130 need 2700. It remembers in rest
     * whether a division or a shift has lost anything: rounding needs no more of what was lost.
     */
    private static final class Big {
        private static final int LIMBS = 96;
        private static final long LOW = 0xFFFFFFFFL;
        private static final int MOST_FIVES = 13;
        private static final int[] FIVES = {
            1, 5, 25, 125, 625, 3125, 15625, 78125, 390625, 1953125, 9765625, 48828125, 244140625,
            1220703125
        };

        private final int[] limbs = new int[LIMBS];
        private int count;
        boolean rest;

        void set(long start) {
            limbs[0] = (int) start;
            limbs[1] = (int) (start >>> 32);
            count = limbs[1] != 0 ? 2 : limbs[0] != 0 ? 1 : 0;
            rest = false;
        }

        boolean isZero() {
            return count == 0;
        }

        int bitLength() {
            return count == 0 ? 0 : 32 * count - Integer.numberOfLeadingZeros(limbs[count - 1]);
        }

        /** The lowest 64 bits. */
        long low() {
            long lowest = count > 0 ? limbs[0] & LOW : 0;
            return count > 1 ? lowest | (long) limbs[1] << 32 : lowest;
        }

        /** Neither is below 0, so that no sum here goes beyond 63 bits. */
        void multiply(int factor, int plus) {
            long carry = plus;
            for (int i = 0; i < count; i++) {
                carry += (limbs[i] & LOW) * factor;
                limbs[i] = (int) carry;
                carry >>>= 32;
            }
            if (carry != 0 && count < LIMBS) {
                limbs[count] = (int) carry;
                count++;
            }
        }

        /** Gives what is left over. */
        int divide(int divisor) {
            if (divisor <= 0) {
                return 0;
            }
            long left = 0;
            for (int i = count - 1; i >= 0; i--) {
                left = left << 32 | limbs[i] & LOW;
                limbs[i] = (int) (left / divisor);
                left %= divisor;
            }
            if (count > 0 && limbs[count - 1] == 0) {
                count--;
            }
            return (int) left;
        }

        void timesFive(int power) {
            for (int left = power; left > 0; left -= MOST_FIVES) {
                multiply(FIVES[Math.min(left, MOST_FIVES)], 0);
            }
        }

        void overFive(int power) {
            for (int left = power; left > 0; left -= MOST_FIVES) {
                if (divide(FIVES[Math.min(left, MOST_FIVES)]) != 0) {
                    rest = true;
                }
            }
        }

        void shiftLeft(int by) {
            int whole = by >> 5;
            int odd = by & 31;
            int needed = count + whole + 1;
            if (count == 0 || by <= 0 || needed > LIMBS) {
                return;
            }
            limbs[count] = 0;
            for (int i = needed - 1; i >= whole; i--) {
                int high = limbs[i - whole] << odd;
                // A shift by 32 would be one by 0, so an even one takes nothing from below.
                boolean more = odd > 0 && i > whole;
                limbs[i] = more ? high | limbs[i - whole - 1] >>> 32 - odd : high;
            }
            for (int i = 0; i < whole; i++) {
                limbs[i] = 0;
            }
            count = needed;
            dropZeroLimb();
        }

        void shiftRight(int by) {
            if (by <= 0) {
                return;
            }
            int whole = Math.min(by >> 5, count);
            int odd = by & 31;
            for (int i = 0; i < whole; i++) {
                rest = rest || limbs[i] != 0;
            }
            count -= whole;
            if (count > 0 && (limbs[whole] & (1 << odd) - 1) != 0) {
                rest = true;
            }
            for (int i = 0; i < count; i++) {
                int low = limbs[i + whole] >>> odd;
                boolean more = odd > 0 && i < count - 1;
                limbs[i] = more ? low | limbs[i + whole + 1] << 32 - odd : low;
            }
            dropZeroLimb();
        }

        /** A shift, as a division, makes at most the highest limb 0. */
        private void dropZeroLimb() {
            if (count > 0 && limbs[count - 1] == 0) {
                count--;
            }
        }
    }

    /** A NUMERAL as it was read: 0.DIGITS times ten to the power, and a bit more if cut. */
    private static final class Numeral {
        /** No number halfway between two of 64 bits has more than 768 digits. */
        private static final int DIGITS = 800;
        private static final int MOST_POWER = 310;
        private static final int LEAST_POWER = -330;
        private static final int FAR = 99999;

        private final byte[] digits = new byte[DIGITS];
        private final Big big = new Big();
        private int count;
        private int power;
        private boolean cut;
        private boolean negative;

        /** Whether a NUMERAL begins at the text's place, which goes behind it or to the byte to blame. */
        boolean scan(Text text) {
            count = 0;
            power = 0;
            cut = false;
            negative = text.pass('-');
            if (!text.pass('0') && !scanDigits(text, 1)) {
                return false;
            }
            if (text.pass('.') && !scanDigits(text, 0)) {
                return false;
            }
            if ((text.pass('e') || text.pass('E')) && !scanPower(text)) {
                return false;
            }
            stripZeros();
            return true;
        }

        /** Each digit ahead of the point makes the number ten times as large: shift is 1 there. */
        private boolean scanDigits(Text text, int shift) {
            int start = text.at;
            for (int i = 0; i < TAPE_BYTES && isDigit(text.here()); i++) {
                keep(text.here() - '0', shift);
                text.at++;
            }
            return text.at > start;
        }

        private void keep(int digit, int shift) {
            if (count == 0 && digit == 0) {
                power += shift - 1;
                return;
            }
            power += shift;
            if (count < DIGITS) {
                digits[count] = (byte) digit;
                count++;
            } else if (digit != 0) {
                cut = true;
            }
        }

        private boolean scanPower(Text text) {
            boolean less = text.pass('-');
            if (!less) {
                text.pass('+');
            }
            int start = text.at;
            int size = 0;
            for (int i = 0; i < TAPE_BYTES && isDigit(text.here()); i++) {
                size = Math.min(FAR, 10 * size + text.here() - '0');
                text.at++;
            }
            power += less ? -size : size;
            return text.at > start;
        }

        private static boolean isDigit(int b) {
            return b >= '0' && b <= '9';
        }

        private void stripZeros() {
            while (count > 0 && digits[count - 1] == 0) {
                count--;
            }
        }

        /** The BITS that the NUMERAL is READ as. */
        long toBits() {
            long sign = negative ? SIGN : 0;
            if (count == 0 || power < LEAST_POWER) {
                return sign;
            }
            if (power > MOST_POWER) {
                return sign | ENDLESS;
            }
            loadDigits();
            int tens = power - count;
            int twos = tens;
            if (tens >= 0) {
                big.timesFive(tens);
            } else {
                int more = Math.max(0, bitsOfFives(-tens) + 66 - big.bitLength());
                big.shiftLeft(more);
                big.overFive(-tens);
                twos -= more;
            }
            return sign | nearest(twos);
        }

        private void loadDigits() {
            big.set(0);
            for (int i = 0; i < count; i += BILLION_DIGITS) {
                int end = Math.min(count, i + BILLION_DIGITS);
                int chunk = 0;
                for (int j = i; j < end; j++) {
                    chunk = 10 * chunk + digits[j];
                }
                big.multiply(TENS[end - i], chunk);
            }
            big.rest = cut;
        }

        /** At least as many bits as 5^power has, for the powers that occur here. */
        private static int bitsOfFives(int fives) {
            return (fives * 2378 >> 10) + 1;
        }

        /** The number nearest to big times 2^twos. */
        private long nearest(int twos) {
            int top = big.bitLength() - 1 + twos;
            if (top > HIGHEST_BIT) {
                return ENDLESS;
            }
            int unit = Math.max(top - FRACTION_BITS, LEAST_TWOS);
            int drop = unit - twos;
            big.shiftLeft(1 - drop);
            big.shiftRight(drop - 1);
            long doubled = big.low();
            long units = doubled >>> 1;
            boolean half = (doubled & 1) != 0;
            if (half && (big.rest || (units & 1) != 0)) {
                units++;
            }
            // The leading bit of the units, and a carry out of them, count the exponent up.
            return ((long) (unit - LEAST_TWOS) << FRACTION_BITS) + units;
        }
    }

    /** Numbers become digits: as few as tell them, or as many as asked for. */
    private static final class Printer {
        /** No number of 64 bits has more than 767 digits, written out. */
        private static final int DIGITS = 810;
        private static final int BILLION = 1000000000;
        private static final long WIDEST_STEP = 1000000000000000000L;
        private static final int WIDEST_ZEROS = 18;

        private final Big big = new Big();
        private final byte[] digits = new byte[DIGITS];
        private int count;
        /** The number is 0.DIGITS times ten to this. */
        private int point;

        void putShortest(long bits, Out out) {
            if ((bits & ~SIGN) == 0) {
                out.put('0');
                return;
            }
            if (bits < 0) {
                out.put('-');
            }
            findShortest(fractionOf(bits), twosOf(bits));
            if (point > 21 || point < -5) {
                putDigits(count, out);
                putPower(out);
            } else {
                putPlain(out);
            }
        }

        private static long fractionOf(long bits) {
            return (bits & ENDLESS) == 0 ? bits & FRACTION : bits & FRACTION | HIDDEN;
        }

        private static int twosOf(long bits) {
            int exponent = (int) ((bits & ENDLESS) >>> FRACTION_BITS);
            return Math.max(exponent, 1) - 1 + LEAST_TWOS;
        }

        /**
         * What is READ as the number lies between the halves of the ways to its neighbours. All is
         * scaled so that the number has 18 or 19 digits ahead of the point: two more than needed.
         */
        private void findShortest(long fraction, int twos) {
            int top = 63 - Long.numberOfLeadingZeros(fraction) + twos;
            int tens = tensOf(top) - 17;
            boolean odd = (fraction & 1) != 0;
            boolean closerBelow = fraction == HIDDEN && twos > LEAST_TWOS;
            long least = scaled(4 * fraction - (closerBelow ? 1 : 2), twos - 2, tens);
            if (big.rest || odd) {
                least++;
            }
            long most = scaled(4 * fraction + 2, twos - 2, tens);
            if (!big.rest && odd) {
                most--;
            }
            long middle = scaled(4 * fraction, twos - 2, tens);
            int zeros = WIDEST_ZEROS;
            for (long step = WIDEST_STEP; step > 1; step /= 10) {
                long lesser = middle / step;
                boolean down = lesser * step >= least;
                boolean up = (lesser + 1) * step <= most;
                if (down || up) {
                    boolean upper = !down || up && isUpperNearer(middle - lesser * step, step, lesser);
                    keepDigits(upper ? lesser + 1 : lesser, tens + zeros);
                    return;
                }
                zeros--;
            }
            keepDigits(middle, tens);
        }

        private boolean isUpperNearer(long above, long step, long lesser) {
            long half = step / 2;
            if (above != half) {
                return above > half;
            }
            return big.rest || (lesser & 1) != 0;
        }

        /** Ten to this is the highest power of ten that is not above 2^top. */
        private static int tensOf(int top) {
            return top * 78913 >> 18;
        }

        /** x times 2^twos over 10^tens, without what is behind the point: big.rest tells of that. */
        private long scaled(long x, int twos, int tens) {
            big.set(x);
            if (tens >= 0) {
                // The bits come first, or the division would lose them.
                big.shiftLeft(twos - tens);
                big.overFive(tens);
                big.shiftRight(tens - twos);
            } else {
                big.timesFive(-tens);
                big.shiftLeft(twos - tens);
                big.shiftRight(tens - twos);
            }
            return big.low();
        }

        private void keepDigits(long whole, int tens) {
            long left = whole;
            int at = DIGITS;
            while (left > 0 && at > 0) {
                at--;
                digits[at] = (byte) (left % 10);
                left /= 10;
            }
            moveToFront(at);
            point = count + tens;
        }

        private void moveToFront(int from) {
            int start = from;
            while (start < DIGITS - 1 && digits[start] == 0) {
                start++;
            }
            count = DIGITS - start;
            for (int i = 0; i < count; i++) {
                digits[i] = digits[start + i];
            }
        }

        private void putPlain(Out out) {
            if (point <= 0) {
                out.put('0');
                out.put('.');
                putZeros(-point, out);
            }
            for (int i = 0; i < count; i++) {
                if (i > 0 && i == point) {
                    out.put('.');
                }
                out.put('0' + digits[i]);
            }
            putZeros(point - count, out);
        }

        private static void putZeros(int howMany, Out out) {
            for (int i = 0; i < howMany; i++) {
                out.put('0');
            }
        }

        /** The first of the digits, a point, and the others up to d, with 0s where there are no more. */
        private void putDigits(int d, Out out) {
            for (int i = 0; i < d; i++) {
                if (i == 1) {
                    out.put('.');
                }
                out.put(i < count ? '0' + digits[i] : '0');
            }
        }

        private void putPower(Out out) {
            int size = Math.abs(point - 1);
            out.put('e');
            out.put(point < 1 ? '-' : '+');
            if (size > 99) {
                out.put('0' + size / 100);
            }
            if (size > 9) {
                out.put('0' + size / 10 % 10);
            }
            out.put('0' + size % 10);
        }

        void putRounded(long bits, int d, Out out) {
            if (bits < 0) {
                out.put('-');
            }
            findAllDigits(fractionOf(bits), twosOf(bits));
            if (d < count) {
                cutTo(d);
            }
            putDigits(d, out);
            putPower(out);
        }

        private void findAllDigits(long fraction, int twos) {
            int even = fraction == 0 ? -twos : Long.numberOfTrailingZeros(fraction);
            int tens = Math.min(0, twos + even);
            big.set(fraction == 0 ? 0 : fraction >>> even);
            big.shiftLeft(twos + even);
            big.timesFive(-tens);
            int at = DIGITS;
            do {
                int billionth = big.divide(BILLION);
                for (int i = 0; i < BILLION_DIGITS && at > 0; i++) {
                    at--;
                    digits[at] = (byte) (billionth % 10);
                    billionth /= 10;
                }
            } while (!big.isZero() && at > 0);
            moveToFront(at);
            point = count + tens;
        }

        /** There are more than d digits, and d is at least 1. */
        private void cutTo(int d) {
            boolean up = isUpper(d);
            count = d;
            for (int i = d - 1; i >= 0 && up; i--) {
                up = digits[i] == 9;
                digits[i] = up ? 0 : (byte) (digits[i] + 1);
            }
            if (up) {
                digits[0] = 1;
                point++;
            }
        }

        private boolean isUpper(int d) {
            if (digits[d] != 5) {
                return digits[d] > 5;
            }
            for (int i = d + 1; i < count; i++) {
                if (digits[i] != 0) {
                    return true;
                }
            }
            return (digits[d - 1] & 1) != 0;
        }
    }

    /**
     * A DOCUMENT as rows, one place for each VALUE. On a shelf the places are the NUMBERS of the
     * CANONICAL FORM, so that a VALUE with all within it is one stretch of places.
     */
    private static final class Tree {
        final int[] kind = new int[VALUES];
        final int[] many = new int[VALUES];
        final int[] owner = new int[VALUES];
        final int[] order = new int[VALUES];
        final int[] size = new int[VALUES];
        final int[] depth = new int[VALUES];
        final long[] number = new long[VALUES];
        final int[] nameAt = new int[VALUES];
        final int[] nameLength = new int[VALUES];
        final int[] textAt = new int[VALUES];
        final int[] characters = new int[SHELF_BYTES];
        int characterCount;
        int bytes;
        int count;
        /** Something did not fit: from then on nothing is added. */
        boolean tooMuch;

        void clear() {
            count = 0;
            characterCount = 0;
            bytes = 0;
            tooMuch = false;
        }

        /** A new VALUE behind all others; where it is, or NONE if there is no room. */
        int add(int newKind, int newOwner) {
            if (tooMuch || count >= VALUES) {
                tooMuch = true;
                return NONE;
            }
            int i = count;
            count++;
            kind[i] = newKind;
            many[i] = 0;
            number[i] = 0;
            nameAt[i] = 0;
            nameLength[i] = 0;
            textAt[i] = 0;
            boolean within = newOwner >= 0 && newOwner < i;
            owner[i] = within ? newOwner : NONE;
            order[i] = within ? many[newOwner] : 0;
            depth[i] = within ? depth[newOwner] + 1 : 0;
            if (within) {
                many[newOwner]++;
            }
            return i;
        }

        void addCharacter(int c) {
            int more = c < 0x80 ? 1 : c < 0x800 ? 2 : c < 0x10000 ? 3 : 4;
            if (tooMuch || bytes > SHELF_BYTES - more || characterCount >= SHELF_BYTES) {
                tooMuch = true;
                return;
            }
            characters[characterCount] = c;
            characterCount++;
            bytes += more;
        }

        /** A new VALUE, in an OBJECT with the NAME of that at i. */
        int addNamed(int newKind, Tree from, int i, int newOwner) {
            int mine = add(newKind, newOwner);
            if (mine != NONE && isNamed(mine)) {
                nameAt[mine] = characterCount;
                addCharacters(from, from.nameAt[i], from.nameLength[i]);
                nameLength[mine] = characterCount - nameAt[mine];
            }
            return mine;
        }

        /** A new VALUE like that at i, but without parts. */
        int addLike(Tree from, int i, int newOwner) {
            int mine = addNamed(from.kind[i], from, i, newOwner);
            if (mine == NONE) {
                return NONE;
            }
            number[mine] = from.number[i];
            if (from.kind[i] == STRING) {
                textAt[mine] = characterCount;
                addCharacters(from, from.textAt[i], from.many[i]);
                many[mine] = characterCount - textAt[mine];
            }
            return mine;
        }

        private void addCharacters(Tree from, int start, int length) {
            int end = Math.min(start + length, from.characterCount);
            for (int i = start; i < end; i++) {
                addCharacter(from.characters[i]);
            }
        }

        /** The VALUE at i and all within it. */
        void addWhole(Tree from, int i, int newOwner) {
            int start = count;
            int end = Math.min(from.count, i + from.size[i]);
            addLike(from, i, newOwner);
            for (int k = i + 1; k < end && !tooMuch; k++) {
                addLike(from, k, from.owner[k] - i + start);
            }
        }

        /** How many VALUES each one is: parts stand behind what they are parts of. */
        void measure() {
            for (int i = 0; i < count; i++) {
                size[i] = 1;
            }
            for (int i = count - 1; i > 0; i--) {
                if (owner[i] >= 0 && owner[i] < i) {
                    size[owner[i]] += size[i];
                }
            }
        }

        boolean isNamed(int i) {
            return owner[i] >= 0 && kind[owner[i]] == OBJECT;
        }

        int nameCharacter(int i, int which) {
            boolean there = isNamed(i) && which >= 0 && which < nameLength[i];
            return there ? characters[nameAt[i] + which] : NONE;
        }

        int textCharacter(int i, int which) {
            boolean there = kind[i] == STRING && which >= 0 && which < many[i];
            return there ? characters[textAt[i] + which] : NONE;
        }

        /** Below 0, 0 or above as these CHARACTERS stand ahead of, are, or stand behind a NAME at j. */
        int compareWithName(int start, int length, Tree other, int j) {
            int its = other.nameLength[j];
            int both = Math.min(length, its);
            for (int k = 0; k < both; k++) {
                int a = characters[start + k];
                int b = other.characters[other.nameAt[j] + k];
                if (a != b) {
                    return Integer.compare(rank(a), rank(b));
                }
            }
            return Integer.compare(length, its);
        }

        int compareNames(int i, Tree other, int j) {
            return compareWithName(nameAt[i], nameLength[i], other, j);
        }

        /** UTF-16 puts CHARACTERS from 65536 on between those below 55296 and the others. */
        private static int rank(int c) {
            if (c < 0xD800) {
                return c;
            }
            return c < 0x10000 ? c + 0x100000 : c - 0x10000 + 0xD800;
        }

        /** Whether two VALUES are the same: both stand in the one order that their NAMES give. */
        boolean isAlike(int i, Tree other, int j) {
            if (size[i] != other.size[j]) {
                return false;
            }
            int end = Math.min(size[i], Math.min(count - i, other.count - j));
            for (int k = 0; k < end; k++) {
                if (!isAlikeAlone(i + k, other, j + k)) {
                    return false;
                }
                if (k > 0 && isNamed(i + k) && !hasSameName(i + k, other, j + k)) {
                    return false;
                }
            }
            return true;
        }

        private boolean hasSameName(int i, Tree other, int j) {
            return nameLength[i] == other.nameLength[j]
                    && hasSameCharacters(nameAt[i], nameLength[i], other, other.nameAt[j]);
        }

        private boolean isAlikeAlone(int i, Tree other, int j) {
            if (kind[i] != other.kind[j] || many[i] != other.many[j]) {
                return false;
            }
            if (kind[i] == STRING) {
                return hasSameCharacters(textAt[i], many[i], other, other.textAt[j]);
            }
            boolean zeros = ((number[i] | other.number[j]) & ~SIGN) == 0;
            return zeros || number[i] == other.number[j];
        }

        private boolean hasSameCharacters(int start, int length, Tree other, int otherStart) {
            for (int k = 0; k < length; k++) {
                if (characters[start + k] != other.characters[otherStart + k]) {
                    return false;
                }
            }
            return true;
        }
    }

    /** Reads a TEXT: first into a draft as the TEXT has it, then in the order of NAMES. */
    private static final class Reader {
        private static final int WANTS_VALUE = 0;
        private static final int WANTS_VALUE_OR_END = 1;
        private static final int WANTS_NAME = 2;
        private static final int WANTS_NAME_OR_END = 3;
        private static final int WANTS_COLON = 4;
        private static final int WANTS_MORE_OR_END = 5;
        private static final int WANTS_REST = 6;
        private static final int WANTS_NOTHING = 7;

        private static final int BAD_BYTE = 1;
        private static final int ENDLESS_NUMERAL = 2;
        private static final int SECOND_NAME = 3;
        private static final int TOO_DEEP = 4;
        private static final int TOO_MANY = 5;

        private static final String SHORT_ESCAPES = "\"\\/bfnrt";
        private static final int[] SHORT_ESCAPED = {'"', BACKSLASH, '/', 8, 12, 10, 13, 9};

        private final Text text;
        private final Numeral scanner;
        private final Tree draft = new Tree();
        /** Of a draft's VALUE its first and its last part, and the part behind it, in their order. */
        private final int[] first = new int[VALUES];
        private final int[] last = new int[VALUES];
        private final int[] next = new int[VALUES];
        private final int[] newPlace = new int[VALUES];
        private int wants;
        private int inside;
        private int open;
        private int newNameAt;
        private int newNameLength;
        private int partAhead;
        private int fault;
        int faultAt;

        Reader(Text text, Numeral scanner) {
            this.text = text;
            this.scanner = scanner;
        }

        /** 0, and the DOCUMENT comes into a tree; or the FAULT. */
        int read(Tree into) {
            begin();
            for (int i = 0; i <= 2 * TAPE_BYTES && wants != WANTS_NOTHING && fault == 0; i++) {
                if (wants == WANTS_REST) {
                    readRest(draft.count - 1);
                } else {
                    text.skipBlanks();
                    readNext(text.here());
                }
            }
            text.skipBlanks();
            if (fault == 0 && (wants != WANTS_NOTHING || text.at < text.length)) {
                blame(BAD_BYTE, text.at);
            }
            if (fault == 0) {
                arrange(into);
            }
            return fault;
        }

        private void begin() {
            text.at = 0;
            draft.clear();
            wants = WANTS_VALUE;
            inside = NONE;
            open = 0;
            partAhead = NONE;
            newNameAt = 0;
            newNameLength = 0;
            fault = 0;
            faultAt = NONE;
        }

        private void blame(int what, int where) {
            fault = what;
            faultAt = where;
        }

        private void readNext(int b) {
            if (b == ']' && wants == WANTS_VALUE_OR_END || b == '}' && wants == WANTS_NAME_OR_END) {
                close();
            } else if (wants == WANTS_VALUE || wants == WANTS_VALUE_OR_END) {
                readValue(kindBegunBy(b));
            } else if (wants == WANTS_NAME || wants == WANTS_NAME_OR_END) {
                readName(b);
            } else if (wants == WANTS_MORE_OR_END) {
                readSeparator(b);
            } else if (text.pass(':')) {
                wants = WANTS_VALUE;
            } else {
                blame(BAD_BYTE, text.at);
            }
        }

        private boolean isInObject() {
            return inside >= 0 && draft.kind[inside] == OBJECT;
        }

        private void readSeparator(int b) {
            boolean object = isInObject();
            if (b == ',') {
                text.at++;
                wants = object ? WANTS_NAME : WANTS_VALUE;
            } else if (b == (object ? '}' : ']')) {
                close();
            } else {
                blame(BAD_BYTE, text.at);
            }
        }

        private void close() {
            text.at++;
            open--;
            inside = inside >= 0 ? draft.owner[inside] : NONE;
            wantBehindValue();
        }

        private void wantBehindValue() {
            wants = inside == NONE ? WANTS_NOTHING : WANTS_MORE_OR_END;
        }

        private static int kindBegunBy(int b) {
            switch (b) {
                case 'n': return NULL;
                case 'f': return FALSE;
                case 't': return TRUE;
                case '"': return STRING;
                case '[': return ARRAY;
                case '{': return OBJECT;
                default: return b == '-' || b >= '0' && b <= '9' ? NUMBER : NONE;
            }
        }

        private void readValue(int kind) {
            if (kind == NONE) {
                blame(BAD_BYTE, text.at);
                return;
            }
            boolean holdsParts = kind == ARRAY || kind == OBJECT;
            if (holdsParts && open >= DEEPEST) {
                blame(TOO_DEEP, text.at);
                return;
            }
            int mine = draft.add(kind, inside);
            if (mine == NONE) {
                blame(TOO_MANY, text.at);
                return;
            }
            link(mine);
            wants = WANTS_REST;
            if (holdsParts) {
                text.at++;
                open++;
                inside = mine;
                wants = kind == OBJECT ? WANTS_NAME_OR_END : WANTS_VALUE_OR_END;
            }
        }

        /** Puts a part behind the one that it follows: of an ARRAY the last, of an OBJECT by NAME. */
        private void link(int mine) {
            first[mine] = NONE;
            last[mine] = NONE;
            next[mine] = NONE;
            draft.nameAt[mine] = newNameAt;
            draft.nameLength[mine] = newNameLength;
            if (inside == NONE) {
                return;
            }
            int ahead = isInObject() ? partAhead : last[inside];
            if (ahead == NONE) {
                next[mine] = first[inside];
                first[inside] = mine;
            } else {
                next[mine] = next[ahead];
                next[ahead] = mine;
            }
            last[inside] = mine;
        }

        /** The latest VALUE, which has no parts, from its first byte on. */
        private void readRest(int mine) {
            wantBehindValue();
            if (mine < 0) {
                return;
            }
            switch (draft.kind[mine]) {
                case NULL: readWord("null"); break;
                case FALSE: readWord("false"); break;
                case TRUE: readWord("true"); break;
                case NUMBER: readNumber(mine); break;
                default:
                    draft.textAt[mine] = draft.characterCount;
                    readString();
                    draft.many[mine] = draft.characterCount - draft.textAt[mine];
                    break;
            }
        }

        private void readWord(String word) {
            if (!text.passWord(word)) {
                blame(BAD_BYTE, text.at);
            }
        }

        private void readNumber(int mine) {
            int start = text.at;
            if (!scanner.scan(text)) {
                blame(BAD_BYTE, text.at);
                return;
            }
            draft.number[mine] = scanner.toBits();
            if (!isNumber(draft.number[mine])) {
                blame(ENDLESS_NUMERAL, start);
            }
        }

        private void readName(int b) {
            int start = text.at;
            if (b != '"') {
                blame(BAD_BYTE, start);
                return;
            }
            newNameAt = draft.characterCount;
            readString();
            newNameLength = draft.characterCount - newNameAt;
            wants = WANTS_COLON;
            if (fault == 0 && !findPartAhead()) {
                blame(SECOND_NAME, start);
            }
        }

        /** The part whose NAME stands next ahead of the new one; false if one has the new NAME. */
        private boolean findPartAhead() {
            partAhead = NONE;
            int part = inside >= 0 ? first[inside] : NONE;
            for (int i = 0; i < VALUES && part != NONE; i++) {
                int order = draft.compareWithName(newNameAt, newNameLength, draft, part);
                if (order <= 0) {
                    return order < 0;
                }
                partAhead = part;
                part = next[part];
            }
            return true;
        }

        /** From the opening quote to behind the closing one; the CHARACTERS go to the draft. */
        private void readString() {
            text.at++;
            int c = 0;
            for (int i = 0; i < TAPE_BYTES && c != NONE; i++) {
                int b = text.here();
                if (b == '"') {
                    text.at++;
                    return;
                }
                c = NONE;
                if (b == BACKSLASH) {
                    c = readEscape();
                } else if (b >= ' ') {
                    c = text.nextCharacter();
                }
                if (c != NONE) {
                    draft.addCharacter(c);
                }
            }
            blame(BAD_BYTE, text.at);
        }

        /** The CHARACTER; NONE if there is none, and then the place is the byte to blame. */
        private int readEscape() {
            text.at++;
            if (!text.pass('u')) {
                return readShortEscape(text.here());
            }
            int unit = readUnit();
            if (unit < 0xD800 || unit > 0xDFFF) {
                return unit;
            }
            if (unit >= 0xDC00) {
                text.at--;
                return NONE;
            }
            if (!text.pass(BACKSLASH) || !text.pass('u')) {
                return NONE;
            }
            return joined(unit, readUnit());
        }

        private int readShortEscape(int b) {
            int which = b == NONE ? NONE : SHORT_ESCAPES.indexOf((char) b);
            if (which < 0 || which >= SHORT_ESCAPED.length) {
                return NONE;
            }
            text.at++;
            return SHORT_ESCAPED[which];
        }

        /** The one CHARACTER of two units; low is NONE if there was none. */
        private int joined(int high, int low) {
            if (low == NONE) {
                return NONE;
            }
            if (low < 0xDC00 || low > 0xDFFF) {
                text.at--;
                return NONE;
            }
            return 0x10000 + (high - 0xD800 << 10) + low - 0xDC00;
        }

        private int readUnit() {
            int unit = 0;
            for (int i = 0; i < 4; i++) {
                int digit = hexadecimal(text.here());
                if (digit == NONE) {
                    return NONE;
                }
                unit = unit << 4 | digit;
                text.at++;
            }
            return unit;
        }

        private static int hexadecimal(int b) {
            if (b >= '0' && b <= '9') {
                return b - '0';
            }
            if (b >= 'a' && b <= 'f') {
                return b - 'a' + 10;
            }
            return b >= 'A' && b <= 'F' ? b - 'A' + 10 : NONE;
        }

        /** Copies the draft, each part where the order of NAMES has it. */
        private void arrange(Tree into) {
            into.clear();
            int at = 0;
            for (int i = 0; i < draft.count && at != NONE; i++) {
                int owner = draft.owner[at];
                newPlace[at] = into.addLike(draft, at, owner < 0 ? NONE : newPlace[owner]);
                at = first[at] != NONE ? first[at] : following(at);
            }
            into.measure();
        }

        /** What comes behind a VALUE and all within it. */
        private int following(int from) {
            int at = from;
            for (int i = 0; i <= DEEPEST && at != NONE && next[at] == NONE; i++) {
                at = draft.owner[at];
            }
            return at == NONE ? NONE : next[at];
        }
    }

    /** Writes the CANONICAL FORM. */
    private static final class Former {
        private static final String SHORT_ESCAPED = "\b\t\n\f\r";
        private static final String SHORT_ESCAPES = "btnfr";
        private static final String HEXADECIMAL = "0123456789abcdef";

        private final Printer printer;

        Former(Printer printer) {
            this.printer = printer;
        }

        void write(Tree tree, int top, Out out) {
            int end = Math.min(tree.count, top + tree.size[top]);
            int open = NONE;
            for (int i = top; i < end; i++) {
                if (i > top) {
                    open = closeUpTo(tree, open, tree.owner[i], out);
                    writeAhead(tree, i, out);
                }
                if (tree.kind[i] == NUMBER) {
                    printer.putShortest(tree.number[i], out);
                } else {
                    writeBeginning(tree, i, out);
                }
                if (tree.kind[i] == ARRAY || tree.kind[i] == OBJECT) {
                    open = i;
                }
            }
            closeUpTo(tree, open, tree.owner[top], out);
        }

        /** Closes what is open within a VALUE, which itself stays open. */
        private static int closeUpTo(Tree tree, int from, int to, Out out) {
            int open = from;
            for (int i = 0; i <= DEEPEST && open != NONE && open != to; i++) {
                out.put(tree.kind[open] == OBJECT ? '}' : ']');
                open = tree.owner[open];
            }
            return open;
        }

        private static void writeAhead(Tree tree, int i, Out out) {
            if (tree.order[i] > 0) {
                out.put(',');
            }
            if (tree.isNamed(i)) {
                writeString(tree, tree.nameAt[i], tree.nameLength[i], out);
                out.put(':');
            }
        }

        private static void writeBeginning(Tree tree, int i, Out out) {
            switch (tree.kind[i]) {
                case NULL: out.putWord("null"); break;
                case FALSE: out.putWord("false"); break;
                case TRUE: out.putWord("true"); break;
                case STRING: writeString(tree, tree.textAt[i], tree.many[i], out); break;
                case ARRAY: out.put('['); break;
                default: out.put('{'); break;
            }
        }

        private static void writeString(Tree tree, int start, int length, Out out) {
            int end = Math.min(tree.characterCount, start + length);
            out.put('"');
            for (int i = start; i < end; i++) {
                writeCharacter(tree.characters[i], out);
            }
            out.put('"');
        }

        private static void writeCharacter(int c, Out out) {
            if (c == '"' || c == BACKSLASH) {
                out.put(BACKSLASH);
                out.put(c);
            } else if (c >= ' ') {
                out.putCharacter(c);
            } else {
                writeEscape(c, out);
            }
        }

        private static void writeEscape(int c, Out out) {
            int which = SHORT_ESCAPED.indexOf((char) c);
            out.put(BACKSLASH);
            if (which >= 0 && which < SHORT_ESCAPES.length()) {
                out.put(SHORT_ESCAPES.charAt(which));
                return;
            }
            out.put('u');
            out.put('0');
            out.put('0');
            out.put(HEXADECIMAL.charAt(c >> 4 & 15));
            out.put(HEXADECIMAL.charAt(c & 15));
        }
    }

    /** A POINTER: first all of it is decoded, for a bad one is none, wherever it leads. */
    private static final class Pointer {
        /** Stands where a TOKEN begins; a / within a TOKEN is the CHARACTER 47. */
        private static final int TOKEN = -2;

        private final int[] marks = new int[TAPE_BYTES];
        private int count;

        boolean decode(Text text) {
            text.at = 0;
            count = 0;
            if (text.length > 0 && text.here() != '/') {
                return false;
            }
            for (int i = 0; i < TAPE_BYTES && text.at < text.length; i++) {
                int mark = nextMark(text);
                if (mark == NONE) {
                    return false;
                }
                marks[i] = mark;
                count++;
            }
            return true;
        }

        private static int nextMark(Text text) {
            if (text.pass('/')) {
                return TOKEN;
            }
            if (!text.pass('~')) {
                return text.nextCharacter();
            }
            if (text.pass('0')) {
                return '~';
            }
            return text.pass('1') ? '/' : NONE;
        }

        /** The NUMBER of what it points to; NONE if there is none such. */
        int find(Tree tree) {
            int found = 0;
            int start = 0;
            for (int i = 0; i < TAPE_BYTES && start < count && found != NONE; i++) {
                int end = endOfToken(start + 1);
                found = findPart(tree, found, start + 1, end);
                start = end;
            }
            return found;
        }

        private int endOfToken(int start) {
            int end = start;
            while (end < count && marks[end] != TOKEN) {
                end++;
            }
            return end;
        }

        private int findPart(Tree tree, int whole, int start, int end) {
            boolean object = tree.kind[whole] == OBJECT;
            if (!object && tree.kind[whole] != ARRAY) {
                return NONE;
            }
            int wanted = object ? NONE : index(start, end);
            int last = Math.min(tree.count, whole + tree.size[whole]);
            for (int part = whole + 1; part < last; part += Math.max(1, tree.size[part])) {
                if (object ? isName(tree, part, start, end) : tree.order[part] == wanted) {
                    return part;
                }
            }
            return NONE;
        }

        private boolean isName(Tree tree, int part, int start, int end) {
            if (tree.nameLength[part] != end - start) {
                return false;
            }
            for (int i = start; i < end; i++) {
                if (tree.nameCharacter(part, i - start) != marks[i]) {
                    return false;
                }
            }
            return true;
        }

        /** Which part of an ARRAY the TOKEN says; NONE if it is no such numeral. */
        private int index(int start, int end) {
            boolean zeroAhead = start < end && marks[start] == '0';
            if (start >= end || zeroAhead && end - start > 1) {
                return NONE;
            }
            int said = 0;
            for (int i = start; i < end; i++) {
                if (marks[i] < '0' || marks[i] > '9') {
                    return NONE;
                }
                said = Math.min(VALUES, 10 * said + marks[i] - '0');
            }
            return said;
        }
    }

    /** MERGED documents and PATCHES: both go through two OBJECTS side by side, NAME by NAME. */
    private static final class Weaver {
        private Tree left;
        private Tree right;
        private Tree made;
        private boolean patching;
        /** A null came into the PATCH that would take a part away instead. */
        boolean noPatch;

        /** MERGED is a with b; with patching it is the PATCH from a to b. */
        void make(Tree a, Tree b, Tree into, boolean patch) {
            left = a;
            right = b;
            made = into;
            patching = patch;
            noPatch = false;
            made.clear();
            weave(0, 0, NONE, 0);
        }

        /** What comes of the VALUES at l (perhaps NONE) and r becomes a part of owner. */
        private void weave(int l, int r, int owner, int deep) {
            if (deep > DEEPEST) {
                made.tooMuch = true;
                return;
            }
            boolean leftObject = l != NONE && left.kind[l] == OBJECT;
            if (right.kind[r] != OBJECT || patching && !leftObject) {
                made.addWhole(right, r, owner);
                noPatch = noPatch || patching && hasNullPart(r);
                return;
            }
            int mine = made.addLike(right, r, owner);
            int a = leftObject ? l + 1 : 0;
            int leftEnd = leftObject ? Math.min(left.count, l + left.size[l]) : 0;
            int b = r + 1;
            int rightEnd = Math.min(right.count, r + right.size[r]);
            for (int i = 0; i < 2 * VALUES && (a < leftEnd || b < rightEnd); i++) {
                int order = a >= leftEnd ? 1 : b >= rightEnd ? -1 : left.compareNames(a, right, b);
                if (order < 0 && patching) {
                    made.addNamed(NULL, left, a, mine);
                } else if (order < 0) {
                    made.addWhole(left, a, mine);
                } else if (isWanted(order == 0 ? a : NONE, b)) {
                    weave(order == 0 ? a : NONE, b, mine, deep + 1);
                }
                a = order <= 0 ? a + left.size[a] : a;
                b = order >= 0 ? b + right.size[b] : b;
            }
        }

        /** Of a patch a null only takes away; of a PATCH what is the same in both is no part. */
        private boolean isWanted(int a, int b) {
            if (patching) {
                return a == NONE || !left.isAlike(a, right, b);
            }
            return right.kind[b] != NULL;
        }

        /** Whether r itself, as a part, or a part of OBJECTS in it is null; ARRAYS are passed over. */
        private boolean hasNullPart(int r) {
            int end = Math.min(right.count, r + right.size[r]);
            int at = r;
            for (int i = 0; i < VALUES && at < end; i++) {
                if (right.kind[at] == NULL && at > 0) {
                    return true;
                }
                at += right.kind[at] == ARRAY ? Math.max(1, right.size[at]) : 1;
            }
            return false;
        }
    }
}
