import java.util.Arrays;

/** A heap of cells with a sliding collector, and the exact numbers and pairs of a small Scheme in it. */
public final class CellHeap {
    public static final int NONE = -1;
    public static final int OUT = -2;
    public static final int LARGE = -3;
    public static final int KIND = -4;
    public static final int ZERO = -5;
    public static final int FULL = -6;
    public static final int SIGN = -7;

    private static final int CELLS = 400;
    private static final int REGISTERS = 8;
    private static final int LINE_LIMIT = 200;
    private static final int OUTPUT_LIMIT = 400;
    private static final int WORD_LIMIT = 20;
    /** Products of two kept numbers have 40 words; their sum one more, and a shifted dividend another. */
    private static final int WORKING_WORDS = 44;

    private static final int SORT_NIL = 0;
    private static final int SORT_FIXED = 1;
    private static final int SORT_BIG = 2;
    private static final int SORT_FRACTION = 3;
    private static final int SORT_PAIR = 4;

    private static final int NIL_VALUE = 0;
    private static final int TRIPLE_SIZE = 3;

    private static final int MINUS = 1;
    private static final int TIMES = 2;
    private static final int OVER = 3;
    private static final int QUOTIENT = 4;
    private static final int REMAINDER = 5;
    private static final int DIVISOR = 6;

    private static final long WORD = 0xFFFFFFFFL;

    private final Heap heap;
    private final Line line;
    private final Reckoner reckoner;
    private final Printer printer;

    public CellHeap() {
        heap = new Heap();
        line = new Line();
        reckoner = new Reckoner();
        printer = new Printer();
    }

    public void nil(int to) throws IllegalArgumentException {
        checkRegister(to);
        heap.registers[to] = NIL_VALUE;
    }

    public int load(int to, long value) throws IllegalArgumentException {
        checkRegister(to);
        reckoner.result.setLong(value);
        return keepResult(to);
    }

    public void copy(int to, int from) throws IllegalArgumentException {
        checkRegister(to);
        checkRegister(from);
        heap.registers[to] = heap.registers[from];
    }

    public int cons(int to, int first, int second) throws IllegalArgumentException {
        checkRegister(to);
        checkRegister(first);
        checkRegister(second);
        if (!heap.makeRoom(TRIPLE_SIZE)) {
            return OUT;
        }
        int pair = heap.addTriple(SORT_PAIR, heap.registers[first], heap.registers[second]);
        heap.registers[to] = pair;
        return Heap.cellOf(pair);
    }

    public int part(int to, int pair, boolean is) throws IllegalArgumentException {
        checkRegister(to);
        checkRegister(pair);
        int from = heap.registers[pair];
        if (heap.sortOf(from) != SORT_PAIR) {
            return KIND;
        }
        heap.registers[to] = is ? heap.firstOf(from) : heap.secondOf(from);
        return 0;
    }

    public int change(int pair, boolean is, int from) throws IllegalArgumentException {
        checkRegister(pair);
        checkRegister(from);
        int changed = heap.registers[pair];
        if (heap.sortOf(changed) != SORT_PAIR) {
            return KIND;
        }
        heap.cells[Heap.cellOf(changed) + (is ? 1 : 2)] = heap.registers[from];
        return 0;
    }

    public int work(int to, int a, int b, int way) throws IllegalArgumentException {
        checkRegister(to);
        checkRegister(a);
        checkRegister(b);
        checkRange(way, DIVISOR);
        boolean wholeAlone = way >= QUOTIENT;
        if (!isOperand(a, wholeAlone) || !isOperand(b, wholeAlone)) {
            return KIND;
        }
        heap.fetchNumber(heap.registers[a], reckoner.left);
        heap.fetchNumber(heap.registers[b], reckoner.right);
        boolean divides = way == OVER || way == QUOTIENT || way == REMAINDER;
        if (divides && reckoner.right.upper.isZero()) {
            return ZERO;
        }
        if (wholeAlone) {
            reckoner.workOnWholes(way);
        } else {
            reckoner.workOnRatios(way);
            reckoner.bringToLowestTerms();
        }
        return keepResult(to);
    }

    public int compare(int a, int b) throws IllegalArgumentException {
        checkRegister(a);
        checkRegister(b);
        if (!isOperand(a, false) || !isOperand(b, false)) {
            return KIND;
        }
        heap.fetchNumber(heap.registers[a], reckoner.left);
        heap.fetchNumber(heap.registers[b], reckoner.right);
        return reckoner.orderOfOperands();
    }

    public boolean same(int a, int b) throws IllegalArgumentException {
        checkRegister(a);
        checkRegister(b);
        return heap.registers[a] == heap.registers[b];
    }

    public int type(int a, int b, int c, int d, int e) throws IllegalStateException {
        int more = Line.charactersIn(a) + Line.charactersIn(b) + Line.charactersIn(c)
                + Line.charactersIn(d) + Line.charactersIn(e);
        if (line.length + more > LINE_LIMIT) {
            throw new IllegalStateException();
        }
        line.addFour(a);
        line.addFour(b);
        line.addFour(c);
        line.addFour(d);
        line.addFour(e);
        return line.length;
    }

    public int erase() {
        int had = line.length;
        line.length = 0;
        return had;
    }

    public int read(int to) throws IllegalArgumentException {
        checkRegister(to);
        Ratio told = reckoner.result;
        if (!line.tellsNumber(told)) {
            return SIGN;
        }
        if (told.lower.isZero()) {
            return ZERO;
        }
        if (told.isLarge()) {
            return LARGE;
        }
        reckoner.bringToLowestTerms();
        return keepResult(to);
    }

    public int write(int from) throws IllegalArgumentException {
        checkRegister(from);
        return printer.print(heap, heap.registers[from]) ? printer.length : FULL;
    }

    public char output(int k) {
        return k >= 0 && k < printer.length ? printer.text[k] : ' ';
    }

    public int collect() {
        int before = heap.top;
        heap.slideLiving();
        return before - heap.top;
    }

    public int value(int register, int what) throws IllegalArgumentException {
        checkRegister(register);
        checkRange(what, 3);
        int asked = heap.registers[register];
        int sort = heap.sortOf(asked);
        if (what == 0) {
            return sort;
        }
        if (what == 3) {
            return sort == SORT_FIXED ? Heap.fixedOf(asked) : 0;
        }
        boolean isObject = sort >= SORT_BIG;
        if (what == 1) {
            return isObject ? Heap.cellOf(asked) : NONE;
        }
        return isObject ? heap.sizeAt(Heap.cellOf(asked)) : 0;
    }

    public int count(int what) throws IllegalArgumentException {
        checkRange(what, 3);
        if (what == 0) {
            return heap.top;
        }
        if (what == 1) {
            return heap.collections;
        }
        return what == 2 ? heap.objectsBelowTop() : heap.markLiving();
    }

    private static void checkRegister(int register) {
        checkRange(register, REGISTERS - 1);
    }

    private static void checkRange(int number, int most) {
        if (number < 0 || number > most) {
            throw new IllegalArgumentException();
        }
    }

    private boolean isOperand(int register, boolean wholeAlone) {
        int sort = heap.sortOf(heap.registers[register]);
        return sort == SORT_FIXED || sort == SORT_BIG || sort == SORT_FRACTION && !wholeAlone;
    }

    /** Everything is wanted at once, before the first cell is taken, so that OUT leaves no half-made number. */
    private int keepResult(int to) {
        Ratio result = reckoner.result;
        if (result.isLarge()) {
            return LARGE;
        }
        if (!heap.makeRoom(Heap.cellsFor(result))) {
            return OUT;
        }
        heap.registers[to] = heap.addNumber(result);
        return 0;
    }

    /**
     * The cells, the registers and the collector. A value is held in one int: 0 is NIL, an odd one is a FIXED number
     * doubled and one more, any other one the object whose first cell is half of it less one.
     * An object's first cell tells its size (from bit 4 on), whether it is below 0 (bit 3) and its sort.
     */
    private static final class Heap {
        final int[] cells = new int[CELLS];
        final int[] registers = new int[REGISTERS];
        int top;
        int collections;
        private final boolean[] lives = new boolean[CELLS];
        private final int[] newPlace = new int[CELLS];
        private final int[] found = new int[CELLS];
        private int foundCount;

        static int fixedOf(int value) {
            return value >> 1;
        }

        static int cellOf(int value) {
            return (value >> 1) - 1;
        }

        private static int objectAt(int cell) {
            return cell + 1 << 1;
        }

        private static boolean isObject(int value) {
            return value != NIL_VALUE && (value & 1) == 0;
        }

        private static int cellsFor(Whole number) {
            return number.isFixed() ? 0 : 1 + number.length;
        }

        static int cellsFor(Ratio number) {
            int upper = cellsFor(number.upper);
            return number.isWhole() ? upper : upper + cellsFor(number.lower) + TRIPLE_SIZE;
        }

        int sortOf(int value) {
            if (isObject(value)) {
                return sortAt(cellOf(value));
            }
            return value == NIL_VALUE ? SORT_NIL : SORT_FIXED;
        }

        private int sortAt(int cell) {
            return cells[cell] & 7;
        }

        int sizeAt(int cell) {
            return cells[cell] >> 4;
        }

        int firstOf(int value) {
            return cells[cellOf(value) + 1];
        }

        int secondOf(int value) {
            return cells[cellOf(value) + 2];
        }

        void fetchWhole(int value, Whole into) {
            if (sortOf(value) != SORT_BIG) {
                into.setLong(fixedOf(value));
                return;
            }
            int cell = cellOf(value);
            into.setWords(cells, cell + 1, sizeAt(cell) - 1);
            into.below = (cells[cell] & 8) != 0;
        }

        void fetchNumber(int value, Ratio into) {
            if (sortOf(value) == SORT_FRACTION) {
                fetchWhole(firstOf(value), into.upper);
                fetchWhole(secondOf(value), into.lower);
            } else {
                fetchWhole(value, into.upper);
                into.lower.setLong(1);
            }
        }

        /** Whether so many cells are free, perhaps behind a collection. */
        boolean makeRoom(int wanted) {
            if (CELLS - top < wanted) {
                slideLiving();
            }
            return CELLS - top >= wanted;
        }

        int addTriple(int sort, int first, int second) {
            int cell = top;
            cells[cell] = TRIPLE_SIZE << 4 | sort;
            cells[cell + 1] = first;
            cells[cell + 2] = second;
            top += TRIPLE_SIZE;
            return objectAt(cell);
        }

        private int addWhole(Whole number) {
            if (number.isFixed()) {
                return number.asFixed() << 1 | 1;
            }
            int cell = top;
            int size = 1 + number.length;
            cells[cell] = size << 4 | (number.below ? 8 : 0) | SORT_BIG;
            System.arraycopy(number.words, 0, cells, cell + 1, number.length);
            top += size;
            return objectAt(cell);
        }

        int addNumber(Ratio number) {
            int upper = addWhole(number.upper);
            if (number.isWhole()) {
                return upper;
            }
            int lower = addWhole(number.lower);
            return addTriple(SORT_FRACTION, upper, lower);
        }

        int objectsBelowTop() {
            int objects = 0;
            int cell = 0;
            while (cell < top && objects < CELLS) {
                cell += sizeAt(cell);
                objects++;
            }
            return objects;
        }

        /** Marks the objects that the registers lead to; tells how many they are. */
        int markLiving() {
            for (int cell = 0; cell < CELLS; cell++) {
                lives[cell] = false;
            }
            foundCount = 0;
            for (int register = 0; register < REGISTERS; register++) {
                reach(registers[register]);
            }
            // A queue instead of recursion: lists may be long and run round. Each object enters it once.
            for (int next = 0; next < foundCount && next < CELLS; next++) {
                int cell = found[next];
                if (sortAt(cell) != SORT_BIG) {
                    reach(cells[cell + 1]);
                    reach(cells[cell + 2]);
                }
            }
            return foundCount;
        }

        private void reach(int value) {
            if (isObject(value) && !lives[cellOf(value)]) {
                lives[cellOf(value)] = true;
                found[foundCount] = cellOf(value);
                foundCount++;
            }
        }

        void slideLiving() {
            markLiving();
            chooseNewPlaces();
            for (int register = 0; register < REGISTERS; register++) {
                registers[register] = moved(registers[register]);
            }
            moveLiving();
            collections++;
        }

        private void chooseNewPlaces() {
            int free = 0;
            int cell = 0;
            for (int objects = 0; objects < CELLS && cell < top; objects++) {
                newPlace[cell] = free;
                int size = sizeAt(cell);
                if (lives[cell]) {
                    free += size;
                }
                cell += size;
            }
        }

        private int moved(int value) {
            return isObject(value) ? objectAt(newPlace[cellOf(value)]) : value;
        }

        /** From the lowest on: what is moved down then never covers what is still to be moved. */
        private void moveLiving() {
            int free = 0;
            int cell = 0;
            for (int objects = 0; objects < CELLS && cell < top; objects++) {
                int size = sizeAt(cell);
                if (lives[cell]) {
                    if (sortAt(cell) != SORT_BIG) {
                        cells[cell + 1] = moved(cells[cell + 1]);
                        cells[cell + 2] = moved(cells[cell + 2]);
                    }
                    System.arraycopy(cells, cell, cells, free, size);
                    free += size;
                }
                cell += size;
            }
            top = free;
        }
    }

    /** A whole number to reckon with: words of 32 bits, the lowest first, none of them 0 at the high end. */
    private static final class Whole {
        private static final int FIXED_MOST = (1 << 30) - 1;

        final int[] words = new int[WORKING_WORDS];
        int length;
        boolean below;

        void setLong(long number) {
            below = number < 0;
            long size = below ? -number : number;
            words[0] = (int) size;
            words[1] = (int) (size >>> 32);
            trim(2);
        }

        void setWords(int[] from, int begin, int many) {
            System.arraycopy(from, begin, words, 0, many);
            length = many;
            below = false;
        }

        void setTo(Whole other) {
            setWords(other.words, 0, other.length);
            below = other.below;
        }

        /** Takes the lowest words, so many at most, as the size. */
        void trim(int atMost) {
            length = atMost;
            while (length > 0 && words[length - 1] == 0) {
                length--;
            }
            below = below && length > 0;
        }

        boolean isZero() {
            return length == 0;
        }

        boolean isOne() {
            return length == 1 && words[0] == 1 && !below;
        }

        boolean isFixed() {
            if (length == 0) {
                return true;
            }
            int most = below ? FIXED_MOST + 1 : FIXED_MOST;
            return length == 1 && words[0] > 0 && words[0] <= most;
        }

        int asFixed() {
            if (length == 0) {
                return 0;
            }
            return below ? -words[0] : words[0];
        }

        long wordAt(int place) {
            return place < length ? words[place] & WORD : 0;
        }

        void flipSign() {
            below = !below && length > 0;
        }

        int orderOfSizes(Whole other) {
            if (length != other.length) {
                return length < other.length ? -1 : 1;
            }
            for (int place = length - 1; place >= 0; place--) {
                if (words[place] != other.words[place]) {
                    return wordAt(place) < other.wordAt(place) ? -1 : 1;
                }
            }
            return 0;
        }

        int orderTo(Whole other) {
            if (below != other.below) {
                return below ? -1 : 1;
            }
            return below ? other.orderOfSizes(this) : orderOfSizes(other);
        }

        /** This may be one of the two that are added. */
        void setSum(Whole a, Whole b) {
            boolean aBelow = a.below;
            boolean bBelow = b.below;
            if (aBelow == bBelow) {
                below = aBelow;
                setSumOfSizes(a, b);
            } else if (a.orderOfSizes(b) >= 0) {
                below = aBelow;
                setDifferenceOfSizes(a, b);
            } else {
                below = bBelow;
                setDifferenceOfSizes(b, a);
            }
        }

        private void setSumOfSizes(Whole a, Whole b) {
            int most = Math.max(a.length, b.length);
            long carry = 0;
            for (int place = 0; place < most; place++) {
                carry += a.wordAt(place) + b.wordAt(place);
                words[place] = (int) carry;
                carry >>>= 32;
            }
            words[most] = (int) carry;
            trim(most + 1);
        }

        private void setDifferenceOfSizes(Whole larger, Whole smaller) {
            int most = larger.length;
            long borrow = 0;
            for (int place = 0; place < most; place++) {
                long difference = larger.wordAt(place) - smaller.wordAt(place) - borrow;
                words[place] = (int) difference;
                borrow = difference < 0 ? 1 : 0;
            }
            trim(most);
        }

        /** This must be none of the two that are multiplied. */
        void setProduct(Whole a, Whole b) {
            int most = a.length + b.length;
            Arrays.fill(words, 0, most, 0);
            for (int i = 0; i < a.length; i++) {
                long carry = 0;
                for (int j = 0; j < b.length; j++) {
                    // The largest that this can be is just below 2^64: it fits, read without a sign.
                    carry += a.wordAt(i) * b.wordAt(j) + (words[i + j] & WORD);
                    words[i + j] = (int) carry;
                    carry >>>= 32;
                }
                words[i + b.length] = (int) carry;
            }
            below = a.below != b.below;
            trim(most);
        }

        void multiplyBy10AndAdd(int digit) {
            long carry = digit;
            for (int place = 0; place < length; place++) {
                carry += wordAt(place) * 10;
                words[place] = (int) carry;
                carry >>>= 32;
            }
            words[length] = (int) carry;
            trim(length + 1);
        }

        /** Divides the size by one word above 0; tells what remains of it. */
        long divideByWord(long divisor) {
            long rest = 0;
            for (int place = length - 1; place >= 0; place--) {
                long part = rest << 32 | wordAt(place);
                long digit = quotientWithoutSign(part, divisor);
                words[place] = (int) digit;
                rest = part - digit * divisor;
            }
            trim(length);
            return rest;
        }

        /** Java divides with a sign: half of the number has none, and what that misses is one at the most. */
        static long quotientWithoutSign(long number, long divisor) {
            long guess = (number >>> 1) / divisor << 1;
            return number - guess * divisor >= divisor ? guess + 1 : guess;
        }
    }

    /** A number as it is reckoned with: the upper and the lower whole number, the lower one 1 for a whole number. */
    private static final class Ratio {
        final Whole upper = new Whole();
        final Whole lower = new Whole();

        void setLong(long number) {
            upper.setLong(number);
            lower.setLong(1);
        }

        boolean isWhole() {
            return lower.isOne();
        }

        boolean isLarge() {
            return upper.length > WORD_LIMIT || lower.length > WORD_LIMIT;
        }
    }

    /** Makes numbers of numbers. */
    private static final class Reckoner {
        final Ratio left = new Ratio();
        final Ratio right = new Ratio();
        final Ratio result = new Ratio();
        private final Whole other = new Whole();
        private final Whole divisor = new Whole();
        private final Whole next = new Whole();
        private final Division division = new Division();

        void workOnRatios(int way) {
            if (way == TIMES) {
                result.upper.setProduct(left.upper, right.upper);
                result.lower.setProduct(left.lower, right.lower);
                return;
            }
            if (way == OVER) {
                result.upper.setProduct(left.upper, right.lower);
                result.lower.setProduct(left.lower, right.upper);
                return;
            }
            result.upper.setProduct(left.upper, right.lower);
            other.setProduct(right.upper, left.lower);
            if (way == MINUS) {
                other.flipSign();
            }
            result.upper.setSum(result.upper, other);
            result.lower.setProduct(left.lower, right.lower);
        }

        void workOnWholes(int way) {
            result.lower.setLong(1);
            if (way == DIVISOR) {
                findDivisor(left.upper, right.upper);
                result.upper.setTo(divisor);
                return;
            }
            division.divide(left.upper, right.upper);
            result.upper.setTo(way == QUOTIENT ? division.quotient : division.remainder);
        }

        int orderOfOperands() {
            result.upper.setProduct(left.upper, right.lower);
            other.setProduct(right.upper, left.lower);
            return result.upper.orderTo(other);
        }

        /** The lower one of the result must not be 0. */
        void bringToLowestTerms() {
            if (result.lower.below) {
                result.upper.flipSign();
                result.lower.flipSign();
            }
            if (result.lower.isOne()) {
                return;
            }
            findDivisor(result.upper, result.lower);
            if (!divisor.isOne()) {
                division.divide(result.upper, divisor);
                result.upper.setTo(division.quotient);
                division.divide(result.lower, divisor);
                result.lower.setTo(division.quotient);
            }
        }

        /** Leaves the greatest common divisor, not below 0, in divisor. */
        private void findDivisor(Whole a, Whole b) {
            divisor.setTo(a);
            next.setTo(b);
            // Every two steps halve the larger one, so that 1312 bits need fewer than 3000 steps.
            for (int step = 0; step < 3000 && !next.isZero(); step++) {
                division.divide(divisor, next);
                divisor.setTo(next);
                next.setTo(division.remainder);
            }
            divisor.below = false;
        }
    }

    /** Division with a remainder, word by word. */
    private static final class Division {
        private static final long BASE = 1L << 32;
        private static final long SIGN_BIT = 1L << 63;

        final Whole quotient = new Whole();
        final Whole remainder = new Whole();
        private final int[] rest = new int[WORKING_WORDS];
        private final int[] by = new int[WORKING_WORDS];

        /** The quotient is cut to 0, the remainder has the sign of a; b must not be 0, nor either one of this. */
        void divide(Whole a, Whole b) {
            if (b.length == 1) {
                quotient.setTo(a);
                remainder.setLong(quotient.divideByWord(b.wordAt(0)));
            } else if (a.orderOfSizes(b) < 0) {
                quotient.setLong(0);
                remainder.setTo(a);
            } else {
                divideByWords(a, b);
            }
            quotient.below = a.below != b.below && !quotient.isZero();
            remainder.below = a.below && !remainder.isZero();
        }

        /** b has two words at least, and a as many as b at least. */
        private void divideByWords(Whole a, Whole b) {
            // A highest bit of 1 in the divisor's highest word keeps the guesses near.
            int shift = Integer.numberOfLeadingZeros(b.words[b.length - 1]);
            shiftUp(a, shift, rest);
            shiftUp(b, shift, by);
            for (int place = a.length - b.length; place >= 0; place--) {
                long digit = guessQuotientWord(place + b.length, b.length);
                if (!subtractTimes(digit, place, b.length)) {
                    digit--;
                    addBack(place, b.length);
                }
                quotient.words[place] = (int) digit;
            }
            quotient.trim(a.length - b.length + 1);
            for (int place = 0; place < b.length; place++) {
                long two = (rest[place + 1] & WORD) << 32 | rest[place] & WORD;
                remainder.words[place] = (int) (two >>> shift);
            }
            remainder.trim(b.length);
        }

        private static void shiftUp(Whole number, int shift, int[] into) {
            long carry = 0;
            for (int place = 0; place < number.length; place++) {
                carry |= number.wordAt(place) << shift;
                into[place] = (int) carry;
                carry >>>= 32;
            }
            into[number.length] = (int) carry;
        }

        /** The right word, or one more than it, from the three highest words of the rest and the two of the divisor. */
        private long guessQuotientWord(int high, int size) {
            long two = (rest[high] & WORD) << 32 | rest[high - 1] & WORD;
            long first = by[size - 1] & WORD;
            long second = by[size - 2] & WORD;
            long guess = Whole.quotientWithoutSign(two, first);
            long left = two - guess * first;
            for (int step = 0; step < 2 && left < BASE; step++) {
                long three = left << 32 | rest[high - 2] & WORD;
                if (guess < BASE && guess * second + SIGN_BIT <= three + SIGN_BIT) {
                    break;
                }
                guess--;
                left += first;
            }
            return guess;
        }

        /** Whether the rest was large enough; if not, it is short of one divisor then. */
        private boolean subtractTimes(long digit, int place, int size) {
            long carry = 0;
            long borrow = 0;
            for (int i = 0; i < size; i++) {
                carry += digit * (by[i] & WORD);
                long difference = (rest[place + i] & WORD) - (carry & WORD) - borrow;
                rest[place + i] = (int) difference;
                borrow = difference < 0 ? 1 : 0;
                carry >>>= 32;
            }
            long difference = (rest[place + size] & WORD) - carry - borrow;
            rest[place + size] = (int) difference;
            return difference >= 0;
        }

        private void addBack(int place, int size) {
            long carry = 0;
            for (int i = 0; i < size; i++) {
                carry += (rest[place + i] & WORD) + (by[i] & WORD);
                rest[place + i] = (int) carry;
                carry >>>= 32;
            }
            rest[place + size] += (int) carry;
        }
    }

    /** The line that is typed and read. */
    private static final class Line {
        private final char[] text = new char[LINE_LIMIT];
        int length;

        static int charactersIn(int four) {
            int characters = 0;
            for (int shift = 24; shift >= 0; shift -= 8) {
                if ((four >>> shift & 255) != 0) {
                    characters++;
                }
            }
            return characters;
        }

        /** There must be room for what four holds. */
        void addFour(int four) {
            for (int shift = 24; shift >= 0; shift -= 8) {
                int character = four >>> shift & 255;
                if (character != 0 && length < LINE_LIMIT) {
                    text[length] = (char) character;
                    length++;
                }
            }
        }

        /** Whether the line is a number's; it is put into the ratio as it stands there, be the lower one 0. */
        boolean tellsNumber(Ratio into) {
            boolean below = stands('-', 0);
            int upperBegin = below ? 1 : 0;
            int upperEnd = endOfDigits(upperBegin);
            if (upperEnd == upperBegin) {
                return false;
            }
            takeDigits(upperBegin, upperEnd, into.upper);
            if (below) {
                into.upper.flipSign();
            }
            into.lower.setLong(1);
            if (upperEnd == length) {
                return true;
            }
            int lowerBegin = upperEnd + 1;
            int lowerEnd = endOfDigits(lowerBegin);
            takeDigits(lowerBegin, lowerEnd, into.lower);
            return stands('/', upperEnd) && lowerEnd > lowerBegin && lowerEnd == length;
        }

        private boolean stands(char character, int place) {
            return place < length && text[place] == character;
        }

        private int endOfDigits(int begin) {
            int end = begin;
            while (end < length && text[end] >= '0' && text[end] <= '9') {
                end++;
            }
            return end;
        }

        private void takeDigits(int begin, int end, Whole into) {
            into.setLong(0);
            for (int place = begin; place < end; place++) {
                into.multiplyBy10AndAdd(text[place] - '0');
            }
        }
    }

    /** Writes values into the output, as far as it goes. */
    private static final class Printer {
        private static final int CHUNK = 1_000_000_000;
        private static final int CHUNK_DIGITS = 9;
        /** A number of 20 words has 193 digits, written in 22 chunks. */
        private static final int DIGITS_MOST = 22 * CHUNK_DIGITS;

        final char[] text = new char[OUTPUT_LIMIT];
        int length;
        private boolean overran;
        /** What is still to be written of each list that is open; each of them has put one character at least. */
        private final int[] rests = new int[OUTPUT_LIMIT + 1];
        private int open;
        private final Whole shrinking = new Whole();
        private final char[] digits = new char[DIGITS_MOST];

        /** Whether the output holds all of the value; else it is empty. */
        boolean print(Heap heap, int value) {
            length = 0;
            overran = false;
            open = 0;
            putAtom(heap, openPairs(heap, value));
            // Every step puts a character, so a list that runs round overruns the output.
            for (int step = 0; step <= OUTPUT_LIMIT && open > 0 && !overran; step++) {
                int rest = rests[open - 1];
                if (heap.sortOf(rest) == SORT_PAIR) {
                    put(' ');
                    rests[open - 1] = heap.secondOf(rest);
                    putAtom(heap, openPairs(heap, heap.firstOf(rest)));
                } else {
                    closeWith(heap, rest);
                }
            }
            if (overran) {
                length = 0;
            }
            return !overran;
        }

        /** Opens the value, if it is a pair, and its first value, and that one's; tells the first that is none. */
        private int openPairs(Heap heap, int value) {
            int first = value;
            while (open <= OUTPUT_LIMIT && heap.sortOf(first) == SORT_PAIR) {
                put('(');
                rests[open] = heap.secondOf(first);
                open++;
                first = heap.firstOf(first);
            }
            return first;
        }

        private void closeWith(Heap heap, int rest) {
            if (rest != NIL_VALUE) {
                put(' ');
                put('.');
                put(' ');
                putAtom(heap, rest);
            }
            put(')');
            open--;
        }

        private void putAtom(Heap heap, int value) {
            int sort = heap.sortOf(value);
            if (sort == SORT_NIL) {
                put('(');
                put(')');
            } else if (sort == SORT_FRACTION) {
                putWhole(heap, heap.firstOf(value));
                put('/');
                putWhole(heap, heap.secondOf(value));
            } else if (sort != SORT_PAIR) {
                putWhole(heap, value);
            }
        }

        private void putWhole(Heap heap, int value) {
            heap.fetchWhole(value, shrinking);
            if (shrinking.below) {
                put('-');
            }
            int begin = DIGITS_MOST;
            while (begin >= CHUNK_DIGITS && !shrinking.isZero()) {
                begin -= CHUNK_DIGITS;
                fillChunk(begin, (int) shrinking.divideByWord(CHUNK));
            }
            while (begin < DIGITS_MOST && digits[begin] == '0') {
                begin++;
            }
            if (begin == DIGITS_MOST) {
                put('0');
            }
            for (int place = begin; place < DIGITS_MOST; place++) {
                put(digits[place]);
            }
        }

        private void fillChunk(int begin, int chunk) {
            int left = chunk;
            for (int place = begin + CHUNK_DIGITS - 1; place >= begin; place--) {
                digits[place] = (char) ('0' + left % 10);
                left /= 10;
            }
        }

        private void put(char character) {
            if (length < OUTPUT_LIMIT) {
                text[length] = character;
                length++;
            } else {
                overran = true;
            }
        }
    }
}
