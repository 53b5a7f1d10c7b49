import java.math.BigInteger;

/** The line, the output and WRITTEN: a test for each sentence that names a boundary. */
public final class TextBoundaryTest {
    private static final int LINE_MOST = 200;
    private static final int OUTPUT_MOST = 400;
    private static final String MOST = Scenes.LARGEST.toString();
    private static final String OVER = Scenes.LARGEST.add(BigInteger.ONE).toString();
    private static final long PAIR_TEXT = "(5 . 1099511627776)".length();

    public static void main(String[] args) {
        Checks.test("type: Up to twenty characters more", TextBoundaryTest::upToTwenty);
        Checks.test("type: four in each number, the highest byte first", TextBoundaryTest::highestByteFirst);
        Checks.test("type: a byte 0 is none", TextBoundaryTest::byteZeroIsNone);
        Checks.test("type: bytes above 127", TextBoundaryTest::highBytes);
        Checks.test("type: How many it has", TextBoundaryTest::howManyTheLineHas);
        Checks.test("type: 200 are not more than 200", TextBoundaryTest::exactlyTwoHundred);
        Checks.test("type: IllegalState: it would have more than 200", TextBoundaryTest::moreThanTwoHundred);
        Checks.test("type: What throws changes nothing", TextBoundaryTest::refusedTypeChangesNothing);
        Checks.test("erase: THE LINE is empty", TextBoundaryTest::eraseEmpties);
        Checks.test("erase: how many characters it had", TextBoundaryTest::eraseTells);
        Checks.test("read: perhaps -", TextBoundaryTest::readSign);
        Checks.test("read: digits", TextBoundaryTest::readDigits);
        Checks.test("read: perhaps / and digits", TextBoundaryTest::readLower);
        Checks.test("read: THE LINE is empty", TextBoundaryTest::readEmpty);
        Checks.test("read: THE LINE is full", TextBoundaryTest::readFullLine);
        Checks.test("read: zeros at the begin", TextBoundaryTest::readLeadingZeros);
        Checks.test("read: SIGN, and nothing changes", TextBoundaryTest::readRefusedSign);
        Checks.test("read: ZERO (the lower one is 0)", TextBoundaryTest::readRefusedZero);
        Checks.test("read: LARGE", TextBoundaryTest::readRefusedLarge);
        Checks.test("read: LARGE (also, if one of the two as told is too large)", TextBoundaryTest::readLargeAsTold);
        Checks.test("read: SIGN goes before ZERO", TextBoundaryTest::signBeforeZero);
        Checks.test("read: SIGN goes before LARGE", TextBoundaryTest::signBeforeLarge);
        Checks.test("read: ZERO goes before LARGE", TextBoundaryTest::zeroBeforeLarge);
        Checks.test("read: SIGN, ZERO, LARGE go before OUT", TextBoundaryTest::refusedBeforeOut);
        Checks.test("read: OUT", TextBoundaryTest::readOut);
        Checks.test("read leaves THE LINE", TextBoundaryTest::readLeavesLine);
        Checks.test("WRITTEN: NIL ()", TextBoundaryTest::writeNil);
        Checks.test("WRITTEN: - if below 0, its digits", TextBoundaryTest::writeWholes);
        Checks.test("WRITTEN: a FRACTION", TextBoundaryTest::writeFractions);
        Checks.test("WRITTEN: a PAIR", TextBoundaryTest::writePairs);
        Checks.test("WRITTEN: parts that are shared", TextBoundaryTest::writeShared);
        Checks.test("WRITTEN: the deepest PAIR", TextBoundaryTest::writeDeepest);
        Checks.test("write: how many characters, 400", TextBoundaryTest::writeFourHundred);
        Checks.test("write: FULL, if they are more than 400", TextBoundaryTest::writeMore);
        Checks.test("write: FULL, whatever stands at the end", TextBoundaryTest::writeMoreOfEachSort);
        Checks.test("write: FULL, lists that run round", TextBoundaryTest::writeRound);
        Checks.test("write: (THE OUTPUT is empty then)", TextBoundaryTest::fullEmpties);
        Checks.test("write changes THE OUTPUT alone", TextBoundaryTest::writeChangesOutputAlone);
        Checks.test("output: Character k", TextBoundaryTest::outputCharacters);
        Checks.test("output: a space if there is none", TextBoundaryTest::outputBeyond);
        Checks.test("THE OUTPUT stays until the next write", TextBoundaryTest::outputStays);
        Checks.finish();
    }

    private static void upToTwenty() {
        for (int place = 0; place < 20; place++) {
            CellHeap heap = new CellHeap();
            int[] fours = new int[5];
            fours[place / 4] = '7' << 24 - 8 * (place % 4);
            Checks.equal("byte " + place + " alone", 1, typeFours(heap, fours));
            heap.read(0);
            Checks.equal("byte " + place + " is read", 7, heap.value(0, 3));
        }
        CellHeap heap = new CellHeap();
        Checks.equal("none", 0, heap.type(0, 0, 0, 0, 0));
        Checks.equal("all twenty", 20, heap.type(0x31323334, 0x35363738, 0x39303132, 0x33343536, 0x37383930));
        heap.read(0);
        Checks.equal("twenty in order", "12345678901234567890", Checks.written(heap, 0));
    }

    private static int typeFours(CellHeap heap, int[] fours) {
        return heap.type(fours[0], fours[1], fours[2], fours[3], fours[4]);
    }

    private static void highestByteFirst() {
        CellHeap heap = new CellHeap();
        heap.type(0x31323334, 0, 0, 0, 0);
        heap.read(0);
        Checks.equal("four", 1234, heap.value(0, 3));
        heap.type(0, 0, 0x35360000, 0, 0x00000037);
        heap.read(0);
        Checks.equal("more behind them", 1234567, heap.value(0, 3));
    }

    private static void byteZeroIsNone() {
        CellHeap heap = new CellHeap();
        Checks.equal("between", 3, heap.type(0x31003200, 0, 0x00330000, 0, 0));
        heap.read(0);
        Checks.equal("no gap is left", 123, heap.value(0, 3));
        Checks.equal("how many", 3, heap.erase());
        Checks.equal("the digit 0 is one", 4, heap.type(0x30303030, 0, 0, 0, 0));
    }

    private static void highBytes() {
        CellHeap heap = new CellHeap();
        Checks.equal("the highest bit alone", 1, heap.type(Integer.MIN_VALUE, 0, 0, 0, 0));
        Checks.equal("a number below 0", 5, heap.type(0, -1, 0, 0, 0));
        Checks.equal("all bits but the highest", 9, heap.type(0, 0, 0, 0, Integer.MAX_VALUE));
        Checks.equal("they are no digits", CellHeap.SIGN, heap.read(0));
        heap.erase();
        Checks.equal("a digit and the highest bit", 1, heap.type(0, 0, 0, 0xB1, 0));
        Checks.equal("is no digit", CellHeap.SIGN, heap.read(0));
    }

    private static void howManyTheLineHas() {
        CellHeap heap = new CellHeap();
        int due = 0;
        for (int more = 0; more < 20; more++) {
            due += more % 5;
            Checks.equal("with " + more % 5 + " more", due, heap.type(0, 0, 0, firstBytes(more % 5), 0));
        }
        Checks.equal("all of them", due, heap.erase());
        Checks.equal("counted anew", 1, heap.type(1, 0, 0, 0, 0));
    }

    private static int firstBytes(int many) {
        return many == 0 ? 0 : -1 << 32 - 8 * many;
    }

    /** A line of so many characters: zeros, and 7 at the end. */
    private static CellHeap withLine(int length) {
        CellHeap heap = new CellHeap();
        Checks.equal("length of the line", length, Checks.typeText(heap, "0".repeat(length - 1) + "7"));
        return heap;
    }

    private static void exactlyTwoHundred() {
        Checks.equal("199 and 1", LINE_MOST, withLine(199).type(0, 0, 0, 0, '1'));
        Checks.equal("180 and 20", LINE_MOST, withLine(180).type(-1, -1, -1, -1, -1));
        Checks.equal("196 and 4", LINE_MOST, withLine(196).type(-1, 0, 0, 0, 0));
        Checks.equal("200 and none", LINE_MOST, withLine(LINE_MOST).type(0, 0, 0, 0, 0));
        CellHeap heap = withLine(LINE_MOST);
        heap.erase();
        Checks.equal("200 once more", LINE_MOST, Checks.typeText(heap, "1".repeat(LINE_MOST)));
    }

    private static void moreThanTwoHundred() {
        for (int place = 0; place < 20; place++) {
            CellHeap heap = withLine(LINE_MOST);
            int[] fours = new int[5];
            fours[place / 4] = 1 << 24 - 8 * (place % 4);
            Checks.illegalState("200 and byte " + place, () -> typeFours(heap, fours));
        }
        for (int more = 1; more <= 20; more++) {
            CellHeap heap = withLine(LINE_MOST - more + 1);
            int[] fours = new int[5];
            for (int i = 0; i < more; i++) {
                fours[i / 4] |= 0x80 << 24 - 8 * (i % 4);
            }
            Checks.illegalState("one too many of " + more, () -> typeFours(heap, fours));
        }
    }

    private static void refusedTypeChangesNothing() {
        CellHeap heap = withLine(190);
        Checks.illegalState("11 more", () -> heap.type(0x31313131, 0x31313131, 0x31313100, 0, 0));
        heap.read(0);
        Checks.equal("the line is as before", 7, heap.value(0, 3));
        Checks.equal("10 more still go", LINE_MOST, heap.type(0x30303030, 0, 0x30303030, 0, 0x30300000));
        heap.read(0);
        Checks.equal("and are read", "70000000000", Checks.written(heap, 0));
        CellHeap full = Scenes.fullOfGarbage();
        CellHeap same = Scenes.fullOfGarbage();
        for (int i = 0; i < 9; i++) {
            full.type(-1, -1, -1, -1, -1);
            same.type(-1, -1, -1, -1, -1);
        }
        Checks.illegalState("20 more than 185", () -> full.type(-1, -1, -1, -1, -1));
        Checks.equal("nothing changes", Scenes.seen(same), Scenes.seen(full));
    }

    private static void eraseEmpties() {
        CellHeap heap = withLine(3);
        heap.erase();
        Checks.equal("it reads as no number", CellHeap.SIGN, heap.read(0));
        Checks.equal("it has none", 0, heap.type(0, 0, 0, 0, 0));
        Checks.equal("one is the first one", 1, heap.type('4', 0, 0, 0, 0));
        heap.read(0);
        Checks.equal("alone", 4, heap.value(0, 3));
    }

    private static void eraseTells() {
        CellHeap heap = new CellHeap();
        Checks.equal("of a new object", 0, heap.erase());
        heap.type(0, 0, 0, 0, 'x');
        Checks.equal("one", 1, heap.erase());
        Checks.equal("none then", 0, heap.erase());
        Checks.equal("200", LINE_MOST, withLine(LINE_MOST).erase());
    }

    private static void reads(String line, String due) {
        CellHeap heap = new CellHeap();
        Checks.equal("read of " + line, 0, Checks.readText(heap, 0, line));
        Checks.equal("what is read of " + line, due, Checks.written(heap, 0));
    }

    /** The answer; all else as it was, be the heap full of garbage or of life. */
    private static void refuses(String line, int answer) {
        for (int kind = 0; kind < 2; kind++) {
            CellHeap heap = kind == 0 ? Scenes.fullOfGarbage() : Scenes.fullOfLife();
            CellHeap other = kind == 0 ? Scenes.fullOfGarbage() : Scenes.fullOfLife();
            Checks.equal("read of " + line, answer, Checks.readText(heap, 0, line));
            other.erase();
            Checks.typeText(other, line);
            Checks.equal("it changes nothing: " + line, Scenes.seen(other), Scenes.seen(heap));
        }
    }

    private static void isSign(String line) {
        Checks.equal("read of " + line, CellHeap.SIGN, Checks.readText(new CellHeap(), 0, line));
    }

    private static void readSign() {
        reads("5", "5");
        reads("-5", "-5");
        reads("-0", "0");
        reads("-1/2", "-1/2");
        isSign("-");
        isSign("--5");
        isSign("+5");
        isSign("5-");
        isSign("-/2");
        isSign("1/-2");
        isSign("- 5");
    }

    private static void readDigits() {
        for (char sign = 1; sign < 256; sign++) {
            boolean digit = sign >= '0' && sign <= '9';
            if (digit) {
                reads("" + sign, "" + sign);
                continue;
            }
            isSign("" + sign);
            isSign("1" + sign);
            isSign("1/2" + sign);
            isSign("1" + sign + "2/3");
            isSign("1/" + sign);
            isSign("-" + sign);
        }
    }

    private static void readLower() {
        reads("1/2", "1/2");
        reads("12/9", "4/3");
        reads("0/3", "0");
        reads("-0/3", "0");
        reads("6/1", "6");
        isSign("/");
        isSign("1/");
        isSign("/1");
        isSign("1//2");
        isSign("1/2/");
        isSign("1/2/3");
        isSign("-/");
        isSign("-1/");
    }

    private static void readEmpty() {
        Checks.equal("a new object", CellHeap.SIGN, new CellHeap().read(0));
        refuses("", CellHeap.SIGN);
    }

    private static void readFullLine() {
        CellHeap heap = withLine(LINE_MOST);
        Checks.equal("199 zeros and 7", 0, heap.read(0));
        Checks.equal("is 7", 7, heap.value(0, 3));
        reads("-" + "0".repeat(198) + "3", "-3");
        reads("1/" + "0".repeat(197) + "3", "1/3");
        reads(MOST + "/" + "0".repeat(199 - MOST.length() - 1) + "2", MOST + "/2");
        Checks.equal("200 nines", CellHeap.LARGE, Checks.readText(heap, 0, "9".repeat(LINE_MOST)));
        Checks.equal("a sign at the end", CellHeap.SIGN, Checks.readText(heap, 0, "9".repeat(199) + "/"));
    }

    private static void readLeadingZeros() {
        reads("0", "0");
        reads("0000", "0");
        reads("007", "7");
        reads("-007/0014", "-1/2");
        reads("000000" + MOST, MOST);
        reads("-000000" + MOST, "-" + MOST);
    }

    private static void readRefusedSign() {
        String[] lines = {"-", "x", "1x", "1/", "/2", "1/2 ", " 1", "1/2/3", "1.5"};
        for (String line : lines) {
            refuses(line, CellHeap.SIGN);
        }
    }

    private static void readRefusedZero() {
        String[] lines = {"1/0", "0/0", "-1/0", "-0/0", "5/000", MOST + "/0"};
        for (String line : lines) {
            refuses(line, CellHeap.ZERO);
        }
        reads("0/1", "0");
    }

    private static void readRefusedLarge() {
        reads(MOST, MOST);
        reads("-" + MOST, "-" + MOST);
        refuses(OVER, CellHeap.LARGE);
        refuses("-" + OVER, CellHeap.LARGE);
        refuses("9".repeat(LINE_MOST), CellHeap.LARGE);
        refuses("-" + "9".repeat(LINE_MOST - 1), CellHeap.LARGE);
        reads("9".repeat(192), "9".repeat(192));
    }

    private static void readLargeAsTold() {
        refuses(OVER + "/1", CellHeap.LARGE);
        refuses(OVER + "/2", CellHeap.LARGE);
        refuses(OVER + "/65536", CellHeap.LARGE);
        refuses("2/" + OVER, CellHeap.LARGE);
        refuses("-65536/" + OVER, CellHeap.LARGE);
        refuses("1/" + OVER, CellHeap.LARGE);
        refuses("0/" + OVER, CellHeap.LARGE);
        reads("1/" + MOST, "1/" + MOST);
        reads("0/" + MOST, "0");
        reads(MOST + "/1", MOST);
        reads(MOST + "/3", Scenes.LARGEST.divide(BigInteger.valueOf(3)).toString());
    }

    private static void signBeforeZero() {
        refuses("1/0x", CellHeap.SIGN);
        refuses("x/0", CellHeap.SIGN);
        refuses("/0", CellHeap.SIGN);
        refuses("-/0", CellHeap.SIGN);
        refuses("1/0/", CellHeap.SIGN);
        refuses("1/0/1", CellHeap.SIGN);
        refuses("0/", CellHeap.SIGN);
    }

    private static void signBeforeLarge() {
        refuses(OVER + "x", CellHeap.SIGN);
        refuses(OVER + "/", CellHeap.SIGN);
        refuses(OVER + "/1-", CellHeap.SIGN);
        refuses("1/" + OVER + "x", CellHeap.SIGN);
        refuses("--" + OVER, CellHeap.SIGN);
    }

    private static void zeroBeforeLarge() {
        refuses(OVER + "/0", CellHeap.ZERO);
        refuses("-" + OVER + "/000", CellHeap.ZERO);
    }

    private static void refusedBeforeOut() {
        CellHeap life = Scenes.fullOfLife();
        Checks.equal("SIGN", CellHeap.SIGN, Checks.readText(life, 0, "1/2x"));
        Checks.equal("ZERO", CellHeap.ZERO, Checks.readText(life, 0, "1/0"));
        Checks.equal("LARGE", CellHeap.LARGE, Checks.readText(life, 0, OVER));
        Checks.equal("no collection", 0, life.count(1));
        Checks.equal("OUT", CellHeap.OUT, Checks.readText(life, 0, "1/2"));
        Checks.equal("its collection", 1, life.count(1));
    }

    private static void readOut() {
        String[] lines = {"1073741824", "-1/2", "1073741824/3", MOST};
        for (String line : lines) {
            CellHeap heap = Scenes.fullOfLife();
            CellHeap other = Scenes.fullOfLife();
            Checks.equal("read of " + line, CellHeap.OUT, Checks.readText(heap, 0, line));
            other.erase();
            Checks.typeText(other, line);
            other.collect();
            Checks.equal("it is but a collection: " + line, Scenes.seen(other), Scenes.seen(heap));
        }
        CellHeap heap = Scenes.fullOfLife();
        Checks.equal("FIXED ones fit", 0, Checks.readText(heap, 0, "-1073741824"));
        Checks.equal("also of a ratio", 0, Checks.readText(heap, 0, "4294967296/8"));
        Checks.equal("which is not FIXED", CellHeap.OUT, Checks.readText(heap, 0, "4294967296/4"));
    }

    private static void readLeavesLine() {
        CellHeap heap = new CellHeap();
        Checks.typeText(heap, "12/9");
        heap.read(0);
        Checks.equal("read twice", 0, heap.read(1));
        Checks.equal("text", "4/3", Checks.written(heap, 1));
        Checks.equal("one more digit", 5, heap.type('7', 0, 0, 0, 0));
        heap.read(2);
        Checks.equal("goes behind the others", "12/97", Checks.written(heap, 2));
        Checks.equal("how many", 5, heap.erase());
    }

    private static void writeNil() {
        CellHeap heap = new CellHeap();
        Checks.equal("how many", 2, heap.write(0));
        Checks.equal("text", "()", Checks.written(heap, 7));
    }

    private static void writeWholes() {
        long[] numbers = {0, 1, -1, 9, 10, -10, 1073741823, -1073741824, 1073741824, -1073741825, 4294967295L,
            4294967296L, 999_999_999, 1_000_000_000, 1_000_000_001, Long.MAX_VALUE, Long.MIN_VALUE};
        for (long number : numbers) {
            CellHeap heap = new CellHeap();
            heap.load(0, number);
            Checks.equal("how many of " + number, String.valueOf(number).length(), heap.write(0));
            Checks.equal("text", String.valueOf(number), Checks.written(heap, 0));
        }
        for (int digits = 1; digits <= 192; digits++) {
            reads("1" + "0".repeat(digits), "1" + "0".repeat(digits));
            reads("-" + "9".repeat(digits), "-" + "9".repeat(digits));
        }
        reads(MOST, MOST);
        reads("-" + MOST, "-" + MOST);
    }

    private static void writeFractions() {
        reads("1/2", "1/2");
        reads("-1/2", "-1/2");
        reads("1073741824/1073741823", "1073741824/1073741823");
        reads("-1/1000000000000000000000", "-1/1000000000000000000000");
        String over = Scenes.LARGEST.subtract(BigInteger.ONE).toString();
        CellHeap heap = Scenes.withNumbers("-" + MOST, over);
        heap.work(2, 0, 1, 3);
        Checks.equal("the longest one", 2L * MOST.length() + 2, heap.write(2));
        Checks.equal("text of the longest one", "-" + MOST + "/" + over, Checks.written(heap, 2));
    }

    private static void writePairs() {
        CellHeap heap = Scenes.withNumbers("1", "-2", "3/4");
        consIs(heap, 7, 7, "(())");
        consIs(heap, 0, 7, "(1)");
        consIs(heap, 7, 0, "(() . 1)");
        consIs(heap, 0, 1, "(1 . -2)");
        consIs(heap, 2, 2, "(3/4 . 3/4)");
        heap.cons(3, 1, 7);
        consIs(heap, 0, 3, "(1 -2)");
        consIs(heap, 3, 3, "((-2) -2)");
        consIs(heap, 3, 7, "((-2))");
        consIs(heap, 7, 3, "(() -2)");
        heap.cons(3, 0, 1);
        consIs(heap, 2, 3, "(3/4 1 . -2)");
        consIs(heap, 3, 0, "((1 . -2) . 1)");
        consIs(heap, 3, 3, "((1 . -2) 1 . -2)");
    }

    private static void consIs(CellHeap heap, int first, int second, String due) {
        heap.cons(4, first, second);
        Checks.equal("how many of " + due, due.length(), heap.write(4));
        Checks.equal("text", due, Checks.written(heap, 4));
    }

    private static void writeShared() {
        CellHeap heap = Scenes.withNumbers("1");
        heap.cons(1, 0, 7);
        heap.cons(1, 1, 1);
        heap.cons(1, 1, 1);
        Checks.equal("text", "(((1) 1) (1) 1)", Checks.written(heap, 1));
    }

    private static void writeDeepest() {
        CellHeap heap = new CellHeap();
        for (int i = 0; i < 133; i++) {
            heap.cons(0, 0, 7);
        }
        String due = "(".repeat(134) + ")".repeat(134);
        Checks.equal("by the first", due, Checks.written(heap, 0));
        CellHeap other = new CellHeap();
        for (int i = 0; i < 132; i++) {
            other.cons(0, 7, 0);
        }
        Checks.equal("by the second", 3 * 132 + 1, other.write(0));
        Checks.equal("its last character", ')', other.output(3 * 132));
    }

    /** A list whose text has so many characters, 323 at least: doubled at first, an object has but 512 calls. */
    private static CellHeap withText(int length) {
        CellHeap heap = new CellHeap();
        heap.cons(0, 7, 7);
        for (int i = 0; i < 6; i++) {
            heap.cons(0, 0, 0);
        }
        Checks.equal("the doubled list", 319, heap.write(0));
        int missing = length - 319;
        heap.load(1, 8);
        while (missing % 3 != 0) {
            heap.cons(0, 1, 0);
            missing -= 2;
        }
        for (int i = 0; i < missing / 3; i++) {
            heap.cons(0, 7, 0);
        }
        return heap;
    }

    private static void writeFourHundred() {
        for (int length = 390; length <= OUTPUT_MOST; length++) {
            CellHeap heap = withText(length);
            Checks.equal("text of " + length, length, heap.write(0));
            Checks.equal("its last character", ')', heap.output(length - 1));
            Checks.equal("none behind it", ' ', heap.output(length));
        }
        Checks.equal("whole", OUTPUT_MOST, Checks.written(withText(OUTPUT_MOST), 0).length());
        Checks.equal("no space in place of a character", -1, Checks.written(withText(400), 0).indexOf("  "));
        CellHeap list = new CellHeap();
        for (int i = 0; i < 133; i++) {
            list.cons(0, 7, 0);
        }
        Checks.equal("as long as the heap goes", OUTPUT_MOST, list.write(0));
    }

    private static void writeMore() {
        for (int length = 401; length <= 410; length++) {
            Checks.equal("text of " + length, CellHeap.FULL, withText(length).write(0));
        }
        CellHeap heap = new CellHeap();
        heap.cons(0, 7, 7);
        for (int i = 0; i < 60; i++) {
            heap.cons(0, 0, 0);
        }
        Checks.equal("2 doubled 60 times", CellHeap.FULL, heap.write(0));
    }

    /** The end of the text is cut at each of its characters, be it a number's, a pair's, NIL's or a point's. */
    private static void writeMoreOfEachSort() {
        String[] ends = {"12345", "-1073741825", "-7/65", "18446744073709551616/3"};
        for (String end : ends) {
            for (int total = 395; total <= 400 + end.length() + 5; total++) {
                endsWith(end, true, total);
                endsWith(end, false, total);
            }
        }
        for (int total = 395; total <= 410; total++) {
            endsWith("()", false, total);
        }
    }

    private static void endsWith(String end, boolean point, int total) {
        int around = point ? "( . )".length() : "( )".length();
        CellHeap heap = withText(total - around - end.length());
        if (!end.equals("()")) {
            Checks.readText(heap, 2, end);
        }
        if (!point) {
            heap.cons(2, 2, 7);
        }
        heap.cons(3, 0, 2);
        int due = total <= OUTPUT_MOST ? total : CellHeap.FULL;
        Checks.equal(total + " characters that end with " + end, due, heap.write(3));
        Checks.equal("output behind it", due > 0 ? ')' : ' ', heap.output(total - 1));
    }

    private static void writeRound() {
        isRound(true, 0, 0);
        isRound(false, 0, 0);
        CellHeap heap = new CellHeap();
        heap.cons(0, 7, 7);
        heap.cons(1, 0, 7);
        heap.change(0, true, 1);
        Checks.equal("two, by the first", CellHeap.FULL, heap.write(0));
        heap.nil(2);
        heap.change(0, true, 2);
        heap.change(0, false, 1);
        Checks.equal("two, by either part", CellHeap.FULL, heap.write(1));
        heap.change(1, true, 1);
        Checks.equal("by all parts", CellHeap.FULL, heap.write(0));
    }

    private static void isRound(boolean is, int pair, int to) {
        CellHeap heap = new CellHeap();
        heap.cons(0, 7, 7);
        heap.change(pair, is, to);
        Checks.equal("one, by " + is, CellHeap.FULL, heap.write(0));
        Checks.equal("the output", ' ', heap.output(0));
        heap.cons(1, 7, 0);
        Checks.equal("behind another one", CellHeap.FULL, heap.write(1));
        heap.change(0, is, 7);
        Checks.equal("cut up again", "(())", Checks.written(heap, 0));
    }

    private static void fullEmpties() {
        CellHeap heap = withText(401);
        heap.write(1);
        Checks.equal("before", '8', heap.output(0));
        Checks.equal("full", CellHeap.FULL, heap.write(0));
        int[] places = {0, 1, 199, 398, 399, 400, -1};
        for (int k : places) {
            Checks.equal("character " + k, ' ', heap.output(k));
        }
        Checks.equal("full again", CellHeap.FULL, heap.write(0));
        Checks.equal("then another", 1, heap.write(1));
        Checks.equal("is there", '8', heap.output(0));
        Checks.equal("alone", ' ', heap.output(1));
    }

    private static void writeChangesOutputAlone() {
        CellHeap heap = Scenes.fullOfGarbage();
        for (int register = 0; register < 8; register++) {
            heap.write(register);
        }
        heap.write(4);
        Checks.equal("all is seen as before", Scenes.seen(Scenes.fullOfGarbage()), Scenes.seen(heap));
    }

    private static void outputCharacters() {
        CellHeap heap = Scenes.fullOfGarbage();
        String due = "(5 . 1099511627776)";
        for (int k = 0; k < due.length(); k++) {
            Checks.equal("character " + k, due.charAt(k), heap.output(k));
        }
        Checks.equal("its last one", ')', heap.output((int) PAIR_TEXT - 1));
    }

    private static void outputBeyond() {
        int[] none = {-1, -2, 400, 401, 4096, Integer.MIN_VALUE, Integer.MAX_VALUE, (int) PAIR_TEXT, 399};
        CellHeap heap = Scenes.fullOfGarbage();
        CellHeap fresh = new CellHeap();
        for (int k : none) {
            Checks.equal("character " + k, ' ', heap.output(k));
            Checks.equal("character " + k + " of a new object", ' ', fresh.output(k));
        }
        Checks.equal("character 0 of a new object", ' ', fresh.output(0));
        CellHeap full = withText(OUTPUT_MOST);
        full.write(0);
        Checks.equal("the last of 400", ')', full.output(399));
        Checks.equal("400 of 400", ' ', full.output(400));
        Checks.equal("below 0 of 400", ' ', full.output(-1));
        full.write(7);
        Checks.equal("the last of 2", ')', full.output(1));
        Checks.equal("nothing old is left", ' ', full.output(2));
        Checks.equal("nothing old at the end", ' ', full.output(399));
    }

    private static void outputStays() {
        CellHeap heap = new CellHeap();
        heap.load(0, -12);
        heap.write(0);
        heap.load(0, 7);
        heap.cons(1, 0, 0);
        heap.nil(1);
        heap.collect();
        heap.erase();
        Checks.readText(heap, 0, "99");
        Checks.illegalArgument("write of no register", () -> heap.write(8));
        Checks.equal("first", '-', heap.output(0));
        Checks.equal("last", '2', heap.output(2));
        Checks.equal("behind it", ' ', heap.output(3));
    }
}
