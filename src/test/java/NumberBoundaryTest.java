import java.math.BigInteger;

/** Numbers, LARGE, load, work and compare: a test for each sentence that names a boundary. */
public final class NumberBoundaryTest {
    private static final BigInteger ONE = BigInteger.ONE;
    private static final String MOST = Scenes.LARGEST.toString();
    private static final String OVER = Scenes.LARGEST.add(ONE).toString();
    private static final String HALF = ONE.shiftLeft(320).toString();
    private static final String LOWEST_LONG = "-9223372036854775808";
    private static final int PLUS = 0;
    private static final int MINUS = 1;
    private static final int TIMES = 2;
    private static final int OVER_WAY = 3;
    private static final int QUOTIENT = 4;
    private static final int REMAINDER = 5;
    private static final int DIVISOR = 6;

    public static void main(String[] args) {
        Checks.test("load: a whole number, the lowest", NumberBoundaryTest::loadLowest);
        Checks.test("load: a whole number, the highest", NumberBoundaryTest::loadHighest);
        Checks.test("load: where FIXED ends", NumberBoundaryTest::loadWhereFixedEnds);
        Checks.test("load: 0; or OUT", NumberBoundaryTest::loadOut);
        Checks.test("way 0 +, over each edge", NumberBoundaryTest::sums);
        Checks.test("way 1 -, over each edge", NumberBoundaryTest::differences);
        Checks.test("way 2 *, over each edge", NumberBoundaryTest::products);
        Checks.test("way 3 /, over each edge", NumberBoundaryTest::ratios);
        Checks.test("way 4 quotient, cut to 0", NumberBoundaryTest::quotients);
        Checks.test("way 5 remainder, of the sign of the first", NumberBoundaryTest::remainders);
        Checks.test("way 6 the greatest common divisor, not below 0", NumberBoundaryTest::divisors);
        Checks.test("way 4, 5: words whose quotient is guessed too large", NumberBoundaryTest::guessedTooLarge);
        Checks.test("work: a REGISTER that is an operand too", NumberBoundaryTest::ontoOperands);
        Checks.test("work: A REGISTER is a NUMBER made of two, whatever was made before", NumberBoundaryTest::madeAnew);
        Checks.test("work: 4, 5, 6 of whole numbers alone (else KIND)", NumberBoundaryTest::wholeAlone);
        Checks.test("work: KIND of NIL and of a PAIR", NumberBoundaryTest::kindOfWork);
        Checks.test("work: KIND goes before ZERO", NumberBoundaryTest::kindBeforeZero);
        Checks.test("work: ZERO (3 by 0)", () -> zeroBy(OVER_WAY));
        Checks.test("work: ZERO (4 by 0)", () -> zeroBy(QUOTIENT));
        Checks.test("work: ZERO (5 by 0)", () -> zeroBy(REMAINDER));
        Checks.test("work: ZERO of no other way, nor of 0 by another", NumberBoundaryTest::noZero);
        Checks.test("work: LARGE before OUT", NumberBoundaryTest::largeBeforeOut);
        Checks.test("work: KIND before OUT, ZERO before OUT", NumberBoundaryTest::refusedBeforeOut);
        Checks.test("work: way is none of those told", NumberBoundaryTest::wrongWays);
        Checks.test("LARGE: more than 20 times 32 bits, +", NumberBoundaryTest::largeSums);
        Checks.test("LARGE: more than 20 times 32 bits, -", NumberBoundaryTest::largeDifferences);
        Checks.test("LARGE: more than 20 times 32 bits, *", NumberBoundaryTest::largeProducts);
        Checks.test("LARGE: the upper one", NumberBoundaryTest::largeUpper);
        Checks.test("LARGE: the lower one", NumberBoundaryTest::largeLower);
        Checks.test("LARGE: in lowest terms", NumberBoundaryTest::largeInLowestTerms);
        Checks.test("LARGE: never of quotient, remainder, divisor", NumberBoundaryTest::neverLarge);
        Checks.test("LARGE: it is refused, and nothing changes", NumberBoundaryTest::largeChangesNothing);
        Checks.test("compare: -1, 0, 1", NumberBoundaryTest::compares);
        Checks.test("compare: the largest ones", NumberBoundaryTest::comparesLargest);
        Checks.test("compare: or KIND", NumberBoundaryTest::kindOfCompare);
        Checks.finish();
    }

    private static void loadLowest() {
        loads(Long.MIN_VALUE, Scenes.BIG, 3);
        loads(Long.MIN_VALUE + 1, Scenes.BIG, 3);
    }

    private static void loadHighest() {
        loads(Long.MAX_VALUE, Scenes.BIG, 3);
        loads(Long.MAX_VALUE - 1, Scenes.BIG, 3);
    }

    private static void loadWhereFixedEnds() {
        loads(0, Scenes.FIXED, 0);
        loads(-1, Scenes.FIXED, 0);
        loads((1 << 30) - 1, Scenes.FIXED, 0);
        loads(1 << 30, Scenes.BIG, 2);
        loads(-(1 << 30), Scenes.FIXED, 0);
        loads(-(1 << 30) - 1, Scenes.BIG, 2);
        loads(Integer.MAX_VALUE, Scenes.BIG, 2);
        loads(Integer.MIN_VALUE, Scenes.BIG, 2);
        loads(1L << 31, Scenes.BIG, 2);
        loads((1L << 32) - 1, Scenes.BIG, 2);
        loads(1L << 32, Scenes.BIG, 3);
        loads(1 - (1L << 32), Scenes.BIG, 2);
        loads(-(1L << 32), Scenes.BIG, 3);
        loads((1L << 32) + 7, Scenes.BIG, 3);
    }

    private static void loads(long number, int sort, int cells) {
        CellHeap heap = new CellHeap();
        Checks.equal("load of " + number, 0, heap.load(7, number));
        Checks.equal("sort of " + number, sort, heap.value(7, 0));
        Checks.equal("cells of " + number, cells, heap.value(7, 2));
        Checks.equal("fixed number of " + number, sort == Scenes.FIXED ? number : 0, heap.value(7, 3));
        Checks.equal("text of " + number, String.valueOf(number), Checks.written(heap, 7));
    }

    private static void loadOut() {
        CellHeap heap = new CellHeap();
        Scenes.fill(heap, 0, 1, 398);
        Checks.equal("3 cells of 2", CellHeap.OUT, heap.load(2, Long.MAX_VALUE));
        Checks.equal("the register stays", Scenes.NIL, heap.value(2, 0));
        Checks.equal("2 cells of 2", 0, heap.load(2, 1L << 31));
        Checks.equal("2 cells of none", CellHeap.OUT, heap.load(2, 1L << 31));
        Checks.equal("the register's own object is none that is gone", "2147483648", Checks.written(heap, 2));
        Checks.equal("a FIXED one", 0, heap.load(2, 3));
        Checks.equal("and so 2 cells come free", 0, heap.load(3, 1L << 31));
    }

    /** The answer, the value and its sort; then both operands as they were. */
    private static void works(String a, int way, String b, String due) {
        String call = a + " way " + way + " " + b;
        CellHeap heap = Scenes.withNumbers(a, b);
        Checks.equal(call, 0, heap.work(2, 0, 1, way));
        Checks.equal(call + ", sort", sortOf(due), heap.value(2, 0));
        Checks.equal(call + ", text", due, textBehind(a, way, b, 2));
        Checks.equal(call + ", the first", a, textBehind(a, way, b, 0));
        Checks.equal(call + ", the second", b, textBehind(a, way, b, 1));
    }

    /** Each text of an object of its own: three long ones would take more calls than one object has. */
    private static String textBehind(String a, int way, String b, int register) {
        CellHeap heap = Scenes.withNumbers(a, b);
        heap.work(2, 0, 1, way);
        return Checks.written(heap, register);
    }

    private static int sortOf(String number) {
        if (number.indexOf('/') >= 0) {
            return Scenes.FRACTION;
        }
        return new BigInteger(number).bitLength() <= 30 ? Scenes.FIXED : Scenes.BIG;
    }

    private static void sums() {
        works("1073741823", PLUS, "1", "1073741824");
        works("1073741822", PLUS, "1", "1073741823");
        works("-1073741824", PLUS, "-1", "-1073741825");
        works("-1073741823", PLUS, "-1", "-1073741824");
        works("1073741823", PLUS, "1073741823", "2147483646");
        works("-1073741824", PLUS, "-1073741824", "-2147483648");
        works("2147483647", PLUS, "1", "2147483648");
        works("-2147483648", PLUS, "-1", "-2147483649");
        works("4294967295", PLUS, "1", "4294967296");
        works("4294967295", PLUS, "4294967295", "8589934590");
        works("9223372036854775807", PLUS, "1", "9223372036854775808");
        works(LOWEST_LONG, PLUS, "-1", "-9223372036854775809");
        works(LOWEST_LONG, PLUS, LOWEST_LONG, "-18446744073709551616");
        works("18446744073709551615", PLUS, "1", "18446744073709551616");
        works("18446744073709551616", PLUS, "-18446744073709551616", "0");
        works("1/2", PLUS, "-1/2", "0");
        works("-1/2", PLUS, "-1/2", "-1");
        works("1073741823", PLUS, "1/1073741823", "1152921502459363330/1073741823");
    }

    private static void differences() {
        works("0", MINUS, "-1073741824", "1073741824");
        works("0", MINUS, "1073741823", "-1073741823");
        works("-1073741824", MINUS, "1", "-1073741825");
        works("1073741824", MINUS, "1", "1073741823");
        works("-1073741825", MINUS, "-1", "-1073741824");
        works("4294967296", MINUS, "1", "4294967295");
        works("18446744073709551616", MINUS, "1", "18446744073709551615");
        works("18446744073709551616", MINUS, "18446744073709551615", "1");
        works("18446744073709551615", MINUS, "18446744073709551616", "-1");
        works("0", MINUS, LOWEST_LONG, "9223372036854775808");
        works(LOWEST_LONG, MINUS, "1", "-9223372036854775809");
        works("5/7", MINUS, "5/7", "0");
        works("0", MINUS, "0", "0");
        works("1/2", MINUS, "3/2", "-1");
        works(MOST, MINUS, MOST, "0");
    }

    private static void products() {
        works("0", TIMES, "-5", "0");
        works("0", TIMES, MOST, "0");
        works("0", TIMES, "-1/3", "0");
        works("-1073741824", TIMES, "-1", "1073741824");
        works("1073741824", TIMES, "-1", "-1073741824");
        works("32768", TIMES, "32768", "1073741824");
        works("32768", TIMES, "-32768", "-1073741824");
        works("65536", TIMES, "65536", "4294967296");
        works("4294967295", TIMES, "4294967295", "18446744065119617025");
        works("18446744073709551615", TIMES, "18446744073709551615", "340282366920938463426481119284349108225");
        works(LOWEST_LONG, TIMES, "-1", "9223372036854775808");
        works(LOWEST_LONG, TIMES, LOWEST_LONG, "85070591730234615865843651857942052864");
        works("2/3", TIMES, "3/2", "1");
        works("-2/3", TIMES, "3/4", "-1/2");
        works("-2/3", TIMES, "-3/4", "1/2");
        works(MOST, TIMES, "-1", "-" + MOST);
    }

    private static void ratios() {
        works("0", OVER_WAY, "-5", "0");
        works("0", OVER_WAY, "-5/3", "0");
        works("6", OVER_WAY, "-4", "-3/2");
        works("-6", OVER_WAY, "-4", "3/2");
        works("6", OVER_WAY, "-1", "-6");
        works("-1073741824", OVER_WAY, "-1", "1073741824");
        works(LOWEST_LONG, OVER_WAY, "-1", "9223372036854775808");
        works("1", OVER_WAY, LOWEST_LONG, "-1/9223372036854775808");
        works("1/2", OVER_WAY, "1/2", "1");
        works("1/2", OVER_WAY, "-1/4", "-2");
        works("-1/2", OVER_WAY, "-1/3", "3/2");
        works("3/2", OVER_WAY, "3", "1/2");
        works(MOST, OVER_WAY, MOST, "1");
        works("1", OVER_WAY, MOST, "1/" + MOST);
    }

    private static void quotients() {
        works("7", QUOTIENT, "2", "3");
        works("-7", QUOTIENT, "2", "-3");
        works("7", QUOTIENT, "-2", "-3");
        works("-7", QUOTIENT, "-2", "3");
        works("-1", QUOTIENT, "2", "0");
        works("1", QUOTIENT, "-2", "0");
        works("0", QUOTIENT, "-3", "0");
        works("6", QUOTIENT, "3", "2");
        works("-1073741824", QUOTIENT, "-1", "1073741824");
        works("1073741824", QUOTIENT, "-1", "-1073741824");
        works(LOWEST_LONG, QUOTIENT, "-1", "9223372036854775808");
        works("-3", QUOTIENT, "4294967296", "0");
        works("-4294967295", QUOTIENT, "4294967296", "0");
        works("-4294967296", QUOTIENT, "4294967296", "-1");
        works("18446744073709551615", QUOTIENT, "4294967296", "4294967295");
        works("-18446744073709551617", QUOTIENT, "4294967297", "-4294967295");
        works(MOST, QUOTIENT, "-" + MOST, "-1");
        works(MOST, QUOTIENT, HALF, ONE.shiftLeft(320).subtract(ONE).toString());
    }

    private static void remainders() {
        works("7", REMAINDER, "2", "1");
        works("-7", REMAINDER, "2", "-1");
        works("7", REMAINDER, "-2", "1");
        works("-7", REMAINDER, "-2", "-1");
        works("-6", REMAINDER, "2", "0");
        works("0", REMAINDER, "-2", "0");
        works("-1", REMAINDER, "2", "-1");
        works("-1073741824", REMAINDER, "-1", "0");
        works(LOWEST_LONG, REMAINDER, "-1", "0");
        works(LOWEST_LONG, REMAINDER, "9223372036854775807", "-1");
        works("-3", REMAINDER, "4294967296", "-3");
        works("-4294967297", REMAINDER, "-4294967296", "-1");
        works("4294967297", REMAINDER, "-4294967296", "1");
        works("-18446744073709551617", REMAINDER, "4294967297", "-2");
        works("-1073741824", REMAINDER, "4294967296", "-1073741824");
        works("-1073741825", REMAINDER, "4294967296", "-1073741825");
        works(MOST, REMAINDER, MOST, "0");
        works("-" + MOST, REMAINDER, HALF, ONE.subtract(ONE.shiftLeft(320)).toString());
    }

    private static void divisors() {
        works("12", DIVISOR, "18", "6");
        works("-12", DIVISOR, "18", "6");
        works("12", DIVISOR, "-18", "6");
        works("-12", DIVISOR, "-18", "6");
        works("0", DIVISOR, "0", "0");
        works("0", DIVISOR, "-5", "5");
        works("-5", DIVISOR, "0", "5");
        works("7", DIVISOR, "-1", "1");
        works("17", DIVISOR, "19", "1");
        works("0", DIVISOR, "-1073741824", "1073741824");
        works("-1073741824", DIVISOR, "-1073741824", "1073741824");
        works(LOWEST_LONG, DIVISOR, "0", "9223372036854775808");
        works(LOWEST_LONG, DIVISOR, LOWEST_LONG, "9223372036854775808");
        works("18446744073709551616", DIVISOR, "-12884901888", "4294967296");
        works("-" + MOST, DIVISOR, "0", MOST);
        works("-" + MOST, DIVISOR, MOST, MOST);
    }

    private static void guessedTooLarge() {
        String[][] words = {{"7FFFFFFF800000000000000000000000", "800000000000000000000001"},
            {"800000000000000000000003", "200000000000000000000001"},
            {"FFFFFFFEFFFFFFFFFFFFFFFF00000000", "FFFFFFFFFFFFFFFF"},
            {"80000000000000000000000000000000", "8000000000000001"},
            {"00000003000000000000000080000000", "000000010000000000000000"},
            {"3FFFFFFFC0000000000000000000000000000000", "4000000000000000000000010000"}};
        for (String[] both : words) {
            BigInteger a = new BigInteger(both[0], 16);
            BigInteger b = new BigInteger(both[1], 16);
            works(a.toString(), QUOTIENT, b.toString(), a.divide(b).toString());
            works(a.toString(), REMAINDER, b.toString(), a.remainder(b).toString());
        }
    }

    private static void madeAnew() {
        String[] due = {"8", "4", "12", "3", "3", "0", "2"};
        for (int way = PLUS; way <= DIVISOR; way++) {
            for (int before = PLUS; before <= DIVISOR; before++) {
                CellHeap heap = Scenes.withNumbers("6", "2", "-" + MOST, "4294967296", "-7/3");
                heap.work(5, 2, before > OVER_WAY ? 3 : 4, before);
                heap.compare(4, 2);
                Checks.equal("way " + way + " behind " + before, 0, heap.work(5, 0, 1, way));
                Checks.equal("is due", due[way], Checks.written(heap, 5));
                heap.work(5, 1, 4, before % 4);
                heap.load(5, 9);
                Checks.equal("load behind it", "9", Checks.written(heap, 5));
            }
        }
    }

    private static void ontoOperands() {
        for (int way = 0; way < 7; way++) {
            for (int to = 0; to < 2; to++) {
                CellHeap apart = Scenes.withNumbers("-18446744073709551616", "12884901888");
                CellHeap onto = Scenes.withNumbers("-18446744073709551616", "12884901888");
                apart.work(2, 0, 1, way);
                Checks.equal("way " + way + " onto " + to, 0, onto.work(to, 0, 1, way));
                Checks.equal("its text, way " + way, Checks.written(apart, 2), Checks.written(onto, to));
                Checks.equal("the other operand", Checks.written(apart, 1 - to), Checks.written(onto, 1 - to));
            }
        }
        CellHeap heap = Scenes.withNumbers("6/4");
        Checks.equal("all three the same register", 0, heap.work(0, 0, 0, TIMES));
        Checks.equal("is its square", "9/4", Checks.written(heap, 0));
    }

    private static void wholeAlone() {
        for (int way = QUOTIENT; way <= DIVISOR; way++) {
            int tried = way;
            Scenes.refused("a fraction first, way " + way, CellHeap.KIND, h -> h.work(7, 3, 0, tried));
            Scenes.refused("a fraction second, way " + way, CellHeap.KIND, h -> h.work(7, 0, 3, tried));
            Scenes.refused("both fractions, way " + way, CellHeap.KIND, h -> h.work(3, 3, 5, tried));
        }
        for (int way = PLUS; way <= OVER_WAY; way++) {
            CellHeap heap = Scenes.withNumbers("1/2", "3");
            Checks.equal("a fraction is good for way " + way, 0, heap.work(2, 0, 1, way));
            Checks.equal("as the second one for way " + way, 0, heap.work(2, 1, 0, way));
        }
        for (int way = QUOTIENT; way <= DIVISOR; way++) {
            CellHeap heap = Scenes.withNumbers("4294967296", "3", "4294967297/4294967296");
            Checks.equal("a BIG one is good for way " + way, 0, heap.work(3, 0, 1, way));
            heap.work(2, 2, 0, TIMES);
            Checks.equal("so is what was a fraction before " + way, 0, heap.work(3, 2, 1, way));
        }
    }

    private static void kindOfWork() {
        for (int way = PLUS; way <= DIVISOR; way++) {
            int tried = way;
            Scenes.refused("a pair first, way " + way, CellHeap.KIND, h -> h.work(0, 4, 2, tried));
            Scenes.refused("a pair second, way " + way, CellHeap.KIND, h -> h.work(0, 2, 4, tried));
            CellHeap heap = Scenes.withNumbers("5");
            Checks.equal("NIL first, way " + way, CellHeap.KIND, heap.work(0, 7, 0, way));
            Checks.equal("NIL second, way " + way, CellHeap.KIND, heap.work(0, 0, 7, way));
            Checks.equal("NIL twice, way " + way, CellHeap.KIND, heap.work(0, 7, 7, way));
            Checks.equal("nothing changes, way " + way, 5, heap.value(0, 3));
        }
    }

    private static void kindBeforeZero() {
        for (int way = OVER_WAY; way <= REMAINDER; way++) {
            int tried = way;
            Scenes.refused("a pair by 0, way " + way, CellHeap.KIND, h -> h.work(0, 4, 1, tried));
        }
        Scenes.refused("a fraction by 0, quotient", CellHeap.KIND, h -> h.work(0, 3, 1, QUOTIENT));
        Scenes.refused("a fraction by 0, remainder", CellHeap.KIND, h -> h.work(0, 3, 1, REMAINDER));
        CellHeap heap = Scenes.withNumbers("0");
        Checks.equal("NIL by 0", CellHeap.KIND, heap.work(0, 7, 0, OVER_WAY));
    }

    private static void zeroBy(int way) {
        Scenes.refused("5 by 0", CellHeap.ZERO, h -> h.work(0, 0, 1, way));
        Scenes.refused("0 by 0", CellHeap.ZERO, h -> h.work(7, 1, 1, way));
        Scenes.refused("a BIG one by 0", CellHeap.ZERO, h -> h.work(2, 2, 1, way));
        Scenes.refused("the largest one by 0", CellHeap.ZERO, h -> h.work(1, 6, 1, way));
        if (way == OVER_WAY) {
            Scenes.refused("a fraction by 0", CellHeap.ZERO, h -> h.work(3, 3, 1, way));
        }
        CellHeap heap = Scenes.withNumbers("4294967296", "-0");
        heap.work(2, 0, 0, MINUS);
        Checks.equal("by a difference of 0", CellHeap.ZERO, heap.work(3, 0, 2, way));
        Checks.equal("by what is read as -0", CellHeap.ZERO, heap.work(3, 0, 1, way));
    }

    private static void noZero() {
        int[] ways = {PLUS, MINUS, TIMES, DIVISOR};
        String[] due = {"5", "5", "0", "5"};
        for (int i = 0; i < ways.length; i++) {
            works("5", ways[i], "0", due[i]);
        }
        works("0", OVER_WAY, "5", "0");
        works("0", QUOTIENT, "5", "0");
        works("0", REMAINDER, "5", "0");
    }

    private static void largeBeforeOut() {
        Scenes.refused("the largest one twice", CellHeap.LARGE, h -> h.work(7, 6, 6, PLUS));
        Scenes.refused("a fraction's upper one", CellHeap.LARGE, h -> h.work(7, 6, 5, TIMES));
        Scenes.refused("a fraction's lower one", CellHeap.LARGE, h -> h.work(7, 5, 6, OVER_WAY));
        CellHeap life = Scenes.fullOfLife();
        Checks.equal("no LARGE one", CellHeap.OUT, life.work(0, 6, 0, MINUS));
    }

    private static void refusedBeforeOut() {
        CellHeap life = Scenes.fullOfLife();
        Checks.equal("KIND", CellHeap.KIND, life.work(0, 4, 2, PLUS));
        Checks.equal("ZERO", CellHeap.ZERO, life.work(0, 2, 1, OVER_WAY));
        Checks.equal("no collection", 0, life.count(1));
        Checks.equal("OUT", CellHeap.OUT, life.work(0, 2, 0, PLUS));
        Checks.equal("its collection", 1, life.count(1));
    }

    private static void wrongWays() {
        int[] wrong = {-1, 7, 8, Integer.MIN_VALUE, Integer.MAX_VALUE};
        for (int way : wrong) {
            Scenes.illegal("way " + way, h -> h.work(0, 0, 0, way));
            Scenes.illegal("way " + way + " of a pair", h -> h.work(0, 4, 4, way));
            Scenes.illegal("way " + way + " by 0", h -> h.work(0, 0, 1, way));
        }
        CellHeap heap = Scenes.withNumbers("5");
        Checks.equal("the lowest way", 0, heap.work(1, 0, 0, PLUS));
        Checks.equal("the highest way", 0, heap.work(1, 0, 0, DIVISOR));
    }

    /** LARGE, and all registers as before. */
    private static void isLarge(String a, int way, String b) {
        CellHeap heap = Scenes.withNumbers(a, b);
        String before = Checks.state(heap);
        String call = a + " way " + way + " " + b;
        Checks.equal(call, CellHeap.LARGE, heap.work(2, 0, 1, way));
        Checks.equal(call + " changes nothing", before, Checks.state(heap));
    }

    private static String most(int offset) {
        return Scenes.LARGEST.add(BigInteger.valueOf(offset)).toString();
    }

    private static void largeSums() {
        works(most(-1), PLUS, "1", MOST);
        isLarge(MOST, PLUS, "1");
        works("-" + most(-1), PLUS, "-1", "-" + MOST);
        isLarge("-" + MOST, PLUS, "-1");
        isLarge(MOST, PLUS, MOST);
        works(MOST, PLUS, "-1", most(-1));
        String half = ONE.shiftLeft(639).toString();
        isLarge(half, PLUS, half);
        works(half, PLUS, ONE.shiftLeft(639).subtract(ONE).toString(), MOST);
    }

    private static void largeDifferences() {
        works("-" + most(-1), MINUS, "1", "-" + MOST);
        isLarge("-" + MOST, MINUS, "1");
        works(most(-1), MINUS, "-1", MOST);
        isLarge(MOST, MINUS, "-1");
        works("0", MINUS, MOST, "-" + MOST);
        isLarge(MOST, MINUS, "-" + MOST);
    }

    private static void largeProducts() {
        String lessThanHalf = ONE.shiftLeft(320).subtract(ONE).toString();
        String moreThanHalf = ONE.shiftLeft(320).add(ONE).toString();
        isLarge(HALF, TIMES, HALF);
        isLarge(HALF, TIMES, "-" + HALF);
        works(lessThanHalf, TIMES, moreThanHalf, MOST);
        works("-" + lessThanHalf, TIMES, moreThanHalf, "-" + MOST);
        works(HALF, TIMES, ONE.shiftLeft(319).toString(), ONE.shiftLeft(639).toString());
        isLarge(MOST, TIMES, "2");
        isLarge(MOST, TIMES, MOST);
        works(MOST, TIMES, "1", MOST);
    }

    private static void largeUpper() {
        works(MOST + "/2", TIMES, "-1", "-" + MOST + "/2");
        isLarge(MOST + "/2", TIMES, "7");
        isLarge(MOST + "/2", PLUS, "1");
        isLarge("-" + MOST + "/2", MINUS, "1");
        isLarge(MOST, OVER_WAY, "2/7");
        works(MOST + "/2", MINUS, "1", most(-2) + "/2");
        isLarge(MOST, PLUS, "1/2");
    }

    private static void largeLower() {
        works("1", OVER_WAY, MOST, "1/" + MOST);
        isLarge("1/" + MOST, OVER_WAY, "2");
        isLarge("1/" + MOST, TIMES, "1/2");
        isLarge("1/" + MOST, PLUS, "1/2");
        isLarge("1/" + MOST, MINUS, "1/" + most(-1));
        isLarge("1/" + HALF, TIMES, "-1/" + HALF);
        works("1/" + HALF, TIMES, "-1/" + ONE.shiftLeft(319), "-1/" + ONE.shiftLeft(639));
    }

    /** What is too large before the common divisor is taken out is none that is made. */
    private static void largeInLowestTerms() {
        String third = Scenes.LARGEST.divide(BigInteger.valueOf(3)).toString();
        works(MOST + "/2", PLUS, MOST + "/2", MOST);
        works(MOST + "/2", TIMES, "2/" + MOST, "1");
        works("1/" + MOST, TIMES, "3", "1/" + third);
        works(MOST, OVER_WAY, "-3", "-" + third);
        works("1/" + MOST, OVER_WAY, "1/" + MOST, "1");
        works("1/" + MOST, PLUS, "-1/" + MOST, "0");
        works(MOST, TIMES, "2/" + MOST, "2");
        works(MOST + "/" + most(-1), TIMES, most(-1) + "/" + most(-2), MOST + "/" + most(-2));
        works(MOST + "/2", OVER_WAY, MOST, "1/2");
    }

    private static void neverLarge() {
        works(MOST, QUOTIENT, "1", MOST);
        works(MOST, QUOTIENT, "-1", "-" + MOST);
        works("-" + MOST, QUOTIENT, "-1", MOST);
        works(most(-1), REMAINDER, MOST, most(-1));
        works("-" + most(-1), REMAINDER, MOST, "-" + most(-1));
        works(MOST, DIVISOR, "0", MOST);
        works("0", DIVISOR, "-" + MOST, MOST);
    }

    private static void largeChangesNothing() {
        for (int to = 0; to < 8; to++) {
            int register = to;
            Scenes.refused("LARGE into " + to, CellHeap.LARGE, h -> h.work(register, 6, 6, TIMES));
        }
        Scenes.refused("LARGE by +", CellHeap.LARGE, h -> h.work(6, 6, 0, PLUS));
        Scenes.refused("LARGE upper one", CellHeap.LARGE, h -> h.work(6, 6, 3, PLUS));
        Scenes.refused("LARGE lower one", CellHeap.LARGE, h -> h.work(5, 5, 6, OVER_WAY));
    }

    private static void ordered(String a, String b, int due) {
        CellHeap heap = Scenes.withNumbers(a, b);
        String before = Checks.state(heap);
        Checks.equal(a + " to " + b, due, heap.compare(0, 1));
        Checks.equal(b + " to " + a, -due, heap.compare(1, 0));
        Checks.equal(a + " to itself", 0, heap.compare(0, 0));
        Checks.equal("compare changes nothing", before, Checks.state(heap));
    }

    private static void compares() {
        ordered("1", "2", -1);
        ordered("0", "0", 0);
        ordered("0", "-0", 0);
        ordered("-1", "0", -1);
        ordered("0", "1", -1);
        ordered("0", "1/1073741823", -1);
        ordered("-1/1073741823", "0", -1);
        ordered("-1", "1", -1);
        ordered("1073741823", "1073741824", -1);
        ordered("-1073741825", "-1073741824", -1);
        ordered("-1073741825", "1073741824", -1);
        ordered("4294967295", "4294967296", -1);
        ordered("-4294967296", "-4294967295", -1);
        ordered("4294967296", "4294967296", 0);
        ordered("8589934592", "8589934593", -1);
        ordered("4294967297", "8589934592", -1);
        ordered("2147483647", "2147483648", -1);
        ordered("9223372036854775807", "9223372036854775808", -1);
        ordered("1/3", "1/2", -1);
        ordered("-1/2", "-1/3", -1);
        ordered("-1/2", "1/3", -1);
        ordered("6/4", "3/2", 0);
        ordered("-3/2", "-1", -1);
        ordered("1", "3/2", -1);
        ordered("4294967295/4294967296", "1", -1);
    }

    private static void comparesLargest() {
        ordered(most(-1), MOST, -1);
        ordered("-" + MOST, "-" + most(-1), -1);
        ordered("-" + MOST, MOST, -1);
        ordered(MOST, MOST, 0);
        ordered(most(-1) + "/" + MOST, "1", -1);
        ordered(MOST + "/" + most(-1), most(-1) + "/" + most(-2), -1);
        ordered("1/" + MOST, "1/" + most(-1), -1);
        ordered("-1/" + most(-1), "-1/" + MOST, -1);
        ordered("1/" + MOST, MOST, -1);
    }

    private static void kindOfCompare() {
        Scenes.refused("a pair first", CellHeap.KIND, h -> h.compare(4, 0));
        Scenes.refused("a pair second", CellHeap.KIND, h -> h.compare(0, 4));
        Scenes.refused("a pair with itself", CellHeap.KIND, h -> h.compare(4, 4));
        CellHeap heap = Scenes.withNumbers("0");
        Checks.equal("NIL first", CellHeap.KIND, heap.compare(7, 0));
        Checks.equal("NIL second", CellHeap.KIND, heap.compare(0, 7));
        Checks.equal("NIL with itself", CellHeap.KIND, heap.compare(7, 7));
        Checks.equal("a fraction is none", 0, Scenes.withNumbers("1/2").compare(0, 0));
    }
}
