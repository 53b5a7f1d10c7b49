import java.math.BigInteger;

/** Each promise by itself: ordinary inputs, the edges that the document names, and wrong inputs. */
public final class PromiseTest {
    private static final int[] NO_REGISTERS = {-1, 8, Integer.MIN_VALUE, Integer.MAX_VALUE};
    private static final int NIL = 0;
    private static final int FIXED = 1;
    private static final int BIG = 2;
    private static final int FRACTION = 3;
    private static final int PAIR = 4;
    private static final BigInteger LARGEST = BigInteger.ONE.shiftLeft(640).subtract(BigInteger.ONE);

    public static void main(String[] args) {
        newObject();
        nil();
        load();
        copy();
        cons();
        part();
        change();
        workOnWholes();
        workOnFractions();
        workRefused();
        workLarge();
        workWanting();
        workDividingAtEdges();
        compare();
        same();
        type();
        erase();
        readNumbers();
        readRefused();
        writeValues();
        writeFull();
        output();
        collect();
        collectShared();
        wantingCells();
        value();
        count();
        Checks.finish();
    }

    private static void newObject() {
        CellHeap heap = new CellHeap();
        Checks.equal("1 top", 0, heap.count(0));
        Checks.equal("1 collections", 0, heap.count(1));
        Checks.equal("1 objects", 0, heap.count(2));
        for (int register = 0; register < 8; register++) {
            Checks.equal("1 register " + register, NIL, heap.value(register, 0));
        }
        Checks.equal("1 output", ' ', heap.output(0));
        Checks.equal("1 line", 0, heap.erase());
        CellHeap other = new CellHeap();
        other.load(0, 7);
        Checks.equal("1 objects are apart", NIL, heap.value(0, 0));
    }

    private static void nil() {
        CellHeap heap = new CellHeap();
        heap.load(3, 1L << 40);
        heap.nil(3);
        Checks.equal("2 nil", NIL, heap.value(3, 0));
        Checks.equal("2 the object stays till a collection", 3, heap.count(0));
        for (int wrong : NO_REGISTERS) {
            Checks.illegalArgument("2 nil(" + wrong + ")", () -> heap.nil(wrong));
        }
    }

    private static void load() {
        loads(0, FIXED, 0, "0");
        loads(-7, FIXED, 0, "-7");
        loads((1L << 30) - 1, FIXED, 0, "1073741823");
        loads(1L << 30, BIG, 2, "1073741824");
        loads(-(1L << 30), FIXED, 0, "-1073741824");
        loads(-(1L << 30) - 1, BIG, 2, "-1073741825");
        loads((1L << 32) - 1, BIG, 2, "4294967295");
        loads(1L << 32, BIG, 3, "4294967296");
        loads(-(1L << 32), BIG, 3, "-4294967296");
        loads(Long.MAX_VALUE, BIG, 3, "9223372036854775807");
        loads(Long.MIN_VALUE, BIG, 3, "-9223372036854775808");
        CellHeap heap = new CellHeap();
        for (int wrong : NO_REGISTERS) {
            Checks.illegalArgument("3 load(" + wrong + ")", () -> heap.load(wrong, 1L << 50));
        }
        Checks.equal("3 a wrong load takes no cell", 0, heap.count(0));
        fillWithList(heap, 0, 133);
        Checks.equal("3 load out", CellHeap.OUT, heap.load(1, 1L << 30));
        Checks.equal("3 out keeps the register", NIL, heap.value(1, 0));
        Checks.equal("3 a fixed one needs no cell", 0, heap.load(1, 5));
        Checks.equal("3 and no collection", 1, heap.count(1));
    }

    private static void loads(long value, int sort, int cells, String text) {
        CellHeap heap = new CellHeap();
        Checks.equal("3 load " + value, 0, heap.load(2, value));
        Checks.equal("3 sort of " + value, sort, heap.value(2, 0));
        Checks.equal("3 cells of " + value, cells, heap.value(2, 2));
        Checks.equal("3 top with " + value, cells, heap.count(0));
        Checks.equal("3 text of " + value, text, Checks.written(heap, 2));
    }

    private static void copy() {
        CellHeap heap = new CellHeap();
        heap.load(0, 1L << 33);
        heap.copy(5, 0);
        Checks.equal("4 the same", 1, heap.same(5, 0) ? 1 : 0);
        Checks.equal("4 no cell is taken", 3, heap.count(0));
        heap.copy(5, 1);
        Checks.equal("4 of nil", NIL, heap.value(5, 0));
        heap.copy(0, 0);
        Checks.equal("4 onto itself", BIG, heap.value(0, 0));
        for (int wrong : NO_REGISTERS) {
            Checks.illegalArgument("4 copy(" + wrong + ", 0)", () -> heap.copy(wrong, 0));
            Checks.illegalArgument("4 copy(0, " + wrong + ")", () -> heap.copy(0, wrong));
        }
    }

    private static void cons() {
        CellHeap heap = new CellHeap();
        heap.load(0, 1L << 30);
        heap.load(1, 4);
        Checks.equal("5 the cell", 2, heap.cons(2, 0, 1));
        Checks.equal("5 sort", PAIR, heap.value(2, 0));
        Checks.equal("5 cells", 3, heap.value(2, 2));
        Checks.equal("5 the next cell", 5, heap.cons(2, 2, 2));
        Checks.equal("5 text", "((1073741824 . 4) 1073741824 . 4)", Checks.written(heap, 2));
        String before = Checks.state(heap);
        for (int wrong : NO_REGISTERS) {
            Checks.illegalArgument("5 cons(" + wrong + ", 0, 0)", () -> heap.cons(wrong, 0, 0));
            Checks.illegalArgument("5 cons(0, " + wrong + ", 0)", () -> heap.cons(0, wrong, 0));
            Checks.illegalArgument("5 cons(0, 0, " + wrong + ")", () -> heap.cons(0, 0, wrong));
        }
        Checks.equal("5 wrong ones change nothing", before, Checks.state(heap));
        consAtTheEnd();
    }

    private static void consAtTheEnd() {
        CellHeap heap = new CellHeap();
        fillWithList(heap, 0, 133);
        Checks.equal("5 top", 399, heap.count(0));
        Checks.equal("5 out", CellHeap.OUT, heap.cons(1, 0, 0));
        Checks.equal("5 out keeps the register", NIL, heap.value(1, 0));
        Checks.equal("5 out behind a collection", 1, heap.count(1));
        heap.part(0, 0, false);
        Checks.equal("5 once one is gone", 396, heap.cons(0, 1, 0));
        Checks.equal("5 the list is whole", 133, lengthOf(heap, 0));
    }

    private static void part() {
        CellHeap heap = new CellHeap();
        heap.load(0, 8);
        heap.load(1, 1L << 40);
        heap.cons(2, 0, 1);
        Checks.equal("6 first", 0, heap.part(3, 2, true));
        Checks.equal("6 first is", 8, heap.value(3, 3));
        Checks.equal("6 second", 0, heap.part(4, 2, false));
        Checks.equal("6 second is the same", 1, heap.same(4, 1) ? 1 : 0);
        Checks.equal("6 into the pair's own register", 0, heap.part(2, 2, true));
        Checks.equal("6 which is", 8, heap.value(2, 3));
        Checks.readText(heap, 5, "1/2");
        String before = Checks.state(heap);
        Checks.equal("6 of fixed", CellHeap.KIND, heap.part(0, 0, true));
        Checks.equal("6 of big", CellHeap.KIND, heap.part(0, 1, false));
        Checks.equal("6 of a fraction", CellHeap.KIND, heap.part(0, 5, true));
        Checks.equal("6 of nil", CellHeap.KIND, heap.part(0, 7, false));
        for (int wrong : NO_REGISTERS) {
            Checks.illegalArgument("6 part(" + wrong + ", 0)", () -> heap.part(wrong, 0, true));
            Checks.illegalArgument("6 part(0, " + wrong + ")", () -> heap.part(0, wrong, true));
        }
        Checks.equal("6 refused ones change nothing", before, Checks.state(heap));
    }

    private static void change() {
        CellHeap heap = new CellHeap();
        heap.load(0, 1);
        heap.load(1, 2);
        heap.cons(2, 0, 1);
        heap.copy(3, 2);
        Checks.equal("7 first", 0, heap.change(2, true, 1));
        Checks.equal("7 seen by all that share", "(2 . 2)", Checks.written(heap, 3));
        Checks.equal("7 second", 0, heap.change(3, false, 7));
        Checks.equal("7 second is", "(2)", Checks.written(heap, 2));
        Checks.equal("7 a pair of itself", 0, heap.change(2, true, 2));
        heap.part(4, 2, true);
        Checks.equal("7 is itself", 1, heap.same(4, 2) ? 1 : 0);
        Checks.readText(heap, 5, "1/2");
        String before = Checks.state(heap);
        Checks.equal("7 of fixed", CellHeap.KIND, heap.change(0, true, 1));
        Checks.equal("7 of a fraction", CellHeap.KIND, heap.change(5, true, 1));
        Checks.equal("7 of nil", CellHeap.KIND, heap.change(7, false, 1));
        for (int wrong : NO_REGISTERS) {
            Checks.illegalArgument("7 change(" + wrong + ", 0)", () -> heap.change(wrong, true, 0));
            Checks.illegalArgument("7 change(0, " + wrong + ")", () -> heap.change(0, true, wrong));
        }
        Checks.equal("7 refused ones change nothing", before, Checks.state(heap));
        Checks.equal("7 a fraction stays", "1/2", Checks.written(heap, 5));
    }

    private static void workOnWholes() {
        works("5", "3", 0, "8");
        works("5", "8", 1, "-3");
        works("-5", "3", 2, "-15");
        works("6", "3", 3, "2");
        works("6", "-4", 3, "-3/2");
        works("0", "-4", 3, "0");
        works("7", "2", 4, "3");
        works("-7", "2", 4, "-3");
        works("7", "-2", 4, "-3");
        works("-7", "-2", 4, "3");
        works("7", "2", 5, "1");
        works("-7", "2", 5, "-1");
        works("7", "-2", 5, "1");
        works("-7", "-2", 5, "-1");
        works("-6", "2", 5, "0");
        works("12", "-18", 6, "6");
        works("0", "0", 6, "0");
        works("0", "-5", 6, "5");
        works("-1073741824", "0", 6, "1073741824");
        works("1073741823", "1", 0, "1073741824");
        works("-1073741824", "-1", 4, "1073741824");
        works("1073741824", "-1", 2, "-1073741824");
        works("4294967296", "4294967296", 1, "0");
        works("18446744073709551615", "1", 0, "18446744073709551616");
        works("18446744073709551616", "1", 1, "18446744073709551615");
        works("100000000000000000000", "30000000000", 4, "3333333333");
        works("-100000000000000000000", "30000000000", 5, "-10000000000");
        works("3", "100000000000000000000", 5, "3");
        works("3", "100000000000000000000", 4, "0");
    }

    private static void workOnFractions() {
        works("1/2", "1/3", 0, "5/6");
        works("1/2", "1/2", 0, "1");
        works("1/2", "1/3", 1, "1/6");
        works("1/3", "1/2", 1, "-1/6");
        works("2/3", "3/2", 2, "1");
        works("2/3", "-3/4", 2, "-1/2");
        works("2/3", "4/3", 3, "1/2");
        works("1/2", "-1/2", 3, "-1");
        works("1/2", "-1/3", 3, "-3/2");
        works("0", "-1/3", 3, "0");
        works("5/7", "5/7", 1, "0");
        works("1/100000000000000000000", "99999999999999999999", 2, "99999999999999999999/100000000000000000000");
    }

    private static void works(String a, String b, int way, String due) {
        CellHeap heap = new CellHeap();
        Checks.readText(heap, 0, a);
        Checks.readText(heap, 1, b);
        Checks.equal("8 " + a + " way " + way + " " + b, 0, heap.work(2, 0, 1, way));
        Checks.equal("8 " + a + " way " + way + " " + b, due, Checks.written(heap, 2));
        boolean whole = due.indexOf('/') < 0;
        boolean fixed = whole && new BigInteger(due).bitLength() <= 30;
        Checks.equal("8 sort of " + due, fixed ? FIXED : whole ? BIG : FRACTION, heap.value(2, 0));
        Checks.equal("8 the first stays", a, Checks.written(heap, 0));
        Checks.equal("8 the second stays", b, Checks.written(heap, 1));
        heap.work(0, 0, 1, way);
        Checks.equal("8 onto an operand", due, Checks.written(heap, 0));
    }

    private static void workRefused() {
        CellHeap heap = new CellHeap();
        heap.load(0, 5);
        heap.load(1, 0);
        Checks.readText(heap, 2, "1/2");
        heap.cons(3, 0, 0);
        String before = Checks.state(heap);
        for (int way = 0; way < 7; way++) {
            Checks.equal("8 nil, way " + way, CellHeap.KIND, heap.work(0, 7, 0, way));
            Checks.equal("8 a pair, way " + way, CellHeap.KIND, heap.work(0, 0, 3, way));
            Checks.equal("8 kind before zero, way " + way, CellHeap.KIND, heap.work(0, 3, 1, way));
        }
        for (int way = 4; way < 7; way++) {
            Checks.equal("8 a fraction, way " + way, CellHeap.KIND, heap.work(0, 2, 0, way));
            Checks.equal("8 by a fraction, way " + way, CellHeap.KIND, heap.work(0, 0, 2, way));
            Checks.equal("8 a fraction by 0, way " + way, CellHeap.KIND, heap.work(0, 2, 1, way));
        }
        for (int way = 3; way < 6; way++) {
            Checks.equal("8 by 0, way " + way, CellHeap.ZERO, heap.work(0, 0, 1, way));
        }
        Checks.equal("8 a fraction by 0", CellHeap.ZERO, heap.work(0, 2, 1, 3));
        for (int wrong : NO_REGISTERS) {
            Checks.illegalArgument("8 work(" + wrong + ", 0, 0, 0)", () -> heap.work(wrong, 0, 0, 0));
            Checks.illegalArgument("8 work(0, " + wrong + ", 0, 0)", () -> heap.work(0, wrong, 0, 0));
            Checks.illegalArgument("8 work(0, 0, " + wrong + ", 0)", () -> heap.work(0, 0, wrong, 0));
        }
        Checks.illegalArgument("8 way -1", () -> heap.work(0, 0, 0, -1));
        Checks.illegalArgument("8 way 7", () -> heap.work(0, 0, 0, 7));
        Checks.illegalArgument("8 way 7 of nil", () -> heap.work(0, 7, 7, 7));
        Checks.equal("8 refused ones change nothing", before, Checks.state(heap));
    }

    private static void workLarge() {
        CellHeap heap = new CellHeap();
        Checks.readText(heap, 0, LARGEST.toString());
        heap.load(1, 1);
        Checks.equal("8 the largest has 21 cells", 21, heap.value(0, 2));
        String before = Checks.state(heap);
        Checks.equal("8 one more", CellHeap.LARGE, heap.work(2, 0, 1, 0));
        Checks.equal("8 its square", CellHeap.LARGE, heap.work(2, 0, 0, 2));
        Checks.equal("8 large changes nothing", before, Checks.state(heap));
        heap.load(1, -1);
        Checks.equal("8 one less below 0", 0, heap.work(2, 0, 1, 2));
        Checks.equal("8 and then", CellHeap.LARGE, heap.work(2, 2, 1, 0));
        heap.load(3, 3);
        Checks.equal("8 a third", 0, heap.work(4, 1, 3, 3));
        Checks.equal("8 the upper one as it is told", 0, heap.work(5, 0, 4, 2));
        Checks.equal("8 the upper one too large", CellHeap.LARGE, heap.work(5, 0, 4, 1));
        Checks.equal("8 one over it", 0, heap.work(5, 1, 0, 3));
        Checks.equal("8 the lower one too large", CellHeap.LARGE, heap.work(5, 5, 3, 3));
        Checks.equal("8 lowest terms alone count", 0, heap.work(5, 5, 0, 2));
        Checks.equal("8 back to", "-1", Checks.written(heap, 5));
        largeAndFull();
    }

    private static void largeAndFull() {
        CellHeap heap = new CellHeap();
        Checks.readText(heap, 0, LARGEST.toString());
        fillWithList(heap, 1, 126);
        Checks.equal("8 top", 399, heap.count(0));
        Checks.equal("8 large before out", CellHeap.LARGE, heap.work(2, 0, 0, 0));
        Checks.equal("8 large collects nothing", 0, heap.count(1));
        heap.load(2, 1);
        Checks.equal("8 out", CellHeap.OUT, heap.work(2, 0, 2, 1));
        Checks.equal("8 out keeps the register", 1, heap.value(2, 3));
        Checks.equal("8 out collects", 1, heap.count(1));
        Checks.equal("8 a fixed one fits always", 0, heap.work(2, 0, 0, 1));
        Checks.equal("8 and collects nothing", 1, heap.count(1));
    }

    /** The order of what is made, and that all of it is wanted at once. */
    private static void workWanting() {
        CellHeap heap = new CellHeap();
        heap.load(0, 1L << 31);
        heap.load(1, 5_000_000_003L);
        Checks.equal("8 a fraction of two big ones", 0, heap.work(2, 0, 1, 3));
        Checks.equal("8 upper, lower, itself", 5 + 2 + 3, heap.value(2, 1));
        Checks.equal("8 its own cells", 3, heap.value(2, 2));
        Checks.equal("8 top", 13, heap.count(0));
        Checks.equal("8 three objects more", 5, heap.count(2));
        heap.load(3, 3);
        Checks.equal("8 a fixed part needs no cell", 0, heap.work(2, 3, 1, 3));
        Checks.equal("8 its cell", 16, heap.value(2, 1));
        heap.nil(2);
        heap.collect();
        fillWithList(heap, 4, 129);
        Checks.equal("8 top is", 392, heap.count(0));
        Checks.equal("8 6 cells fit", 0, heap.work(2, 3, 1, 3));
        Checks.equal("8 8 cells do not", CellHeap.OUT, heap.work(2, 0, 1, 3));
        Checks.equal("8 all or nothing", 398, heap.count(0));
        Checks.equal("8 and what fits is there", "3/5000000003", Checks.written(heap, 2));
    }

    /** Words for which the guess of a quotient's word is too large by one or two. */
    private static void workDividingAtEdges() {
        divides("7FFFFFFF800000000000000000000000", "800000000000000000000001");
        divides("800000000000000000000003", "200000000000000000000001");
        divides("FFFFFFFF00000000FFFFFFFF00000000", "FFFFFFFF00000001");
        divides("FFFFFFFFFFFFFFFFFFFFFFFFFFFFFFFF", "FFFFFFFFFFFFFFFF");
        divides("FFFFFFFEFFFFFFFFFFFFFFFF00000000", "FFFFFFFFFFFFFFFF");
        divides("80000000000000000000000000000000", "8000000000000001");
        divides("00000003000000000000000080000000", "000000010000000000000000");
        divides("FFFFFFFFFFFFFFFFFFFFFFFF", "FFFFFFFF");
    }

    private static void divides(String a, String b) {
        BigInteger one = new BigInteger(a, 16);
        BigInteger two = new BigInteger(b, 16);
        CellHeap heap = new CellHeap();
        Checks.readText(heap, 0, one.toString());
        Checks.readText(heap, 1, two.toString());
        heap.work(2, 0, 1, 4);
        heap.work(3, 0, 1, 5);
        Checks.equal("8 quotient of " + a + " " + b, one.divide(two).toString(), Checks.written(heap, 2));
        Checks.equal("8 remainder of " + a + " " + b, one.remainder(two).toString(), Checks.written(heap, 3));
    }

    private static void compare() {
        compares("1", "2", -1);
        compares("2", "2", 0);
        compares("-3", "-2", -1);
        compares("-3", "2", -1);
        compares("4294967296", "4294967297", -1);
        compares("4294967295", "2147483648", 1);
        compares("-4294967296", "5", -1);
        compares("1/2", "1/3", 1);
        compares("-1/2", "1/3", -1);
        compares("-1/2", "-1/3", -1);
        compares("6/4", "3/2", 0);
        compares("7/2", "3", 1);
        compares("10000000000", "10000000000", 0);
        CellHeap heap = new CellHeap();
        heap.load(0, 1);
        heap.cons(1, 0, 0);
        Checks.equal("9 of nil", CellHeap.KIND, heap.compare(0, 2));
        Checks.equal("9 of a pair", CellHeap.KIND, heap.compare(1, 0));
        for (int wrong : NO_REGISTERS) {
            Checks.illegalArgument("9 compare(" + wrong + ", 0)", () -> heap.compare(wrong, 2));
            Checks.illegalArgument("9 compare(0, " + wrong + ")", () -> heap.compare(2, wrong));
        }
    }

    private static void compares(String a, String b, int due) {
        CellHeap heap = new CellHeap();
        Checks.readText(heap, 0, a);
        Checks.readText(heap, 1, b);
        Checks.equal("9 " + a + " to " + b, due, heap.compare(0, 1));
        Checks.equal("9 " + b + " to " + a, -due, heap.compare(1, 0));
        Checks.equal("9 no collection", 0, heap.count(1));
    }

    private static void same() {
        CellHeap heap = new CellHeap();
        Checks.equal("10 nil and nil", 1, heap.same(0, 1) ? 1 : 0);
        heap.load(0, 0);
        Checks.equal("10 0 and nil", 0, heap.same(0, 1) ? 1 : 0);
        heap.load(1, 0);
        Checks.equal("10 0 and 0", 1, heap.same(0, 1) ? 1 : 0);
        heap.load(1, 1);
        Checks.equal("10 0 and 1", 0, heap.same(0, 1) ? 1 : 0);
        heap.load(2, 1L << 40);
        heap.load(3, 1L << 40);
        Checks.equal("10 as large, at another cell", 0, heap.same(2, 3) ? 1 : 0);
        Checks.equal("10 with itself", 1, heap.same(2, 2) ? 1 : 0);
        heap.cons(4, 0, 0);
        heap.cons(5, 4, 4);
        heap.part(6, 5, true);
        Checks.equal("10 a pair, shared", 1, heap.same(6, 4) ? 1 : 0);
        heap.load(7, heap.value(4, 1));
        Checks.equal("10 a cell is no number", 0, heap.same(4, 7) ? 1 : 0);
        for (int wrong : NO_REGISTERS) {
            Checks.illegalArgument("10 same(" + wrong + ", 0)", () -> heap.same(wrong, 0));
            Checks.illegalArgument("10 same(0, " + wrong + ")", () -> heap.same(0, wrong));
        }
    }

    private static void type() {
        CellHeap heap = new CellHeap();
        Checks.equal("11 none", 0, heap.type(0, 0, 0, 0, 0));
        Checks.equal("11 two", 2, heap.type(0x31003200, 0, 0, 0, 0));
        Checks.equal("11 one in each", 7, heap.type(0x33, 0x3400, 0x350000, 0x36000000, 0x37));
        heap.read(0);
        Checks.equal("11 in order", "1234567", Checks.written(heap, 0));
        heap.erase();
        for (int i = 1; i <= 9; i++) {
            Checks.equal("11 twenty", 20 * i, heap.type(-1, -1, -1, -1, -1));
        }
        Checks.equal("11 the last but one", 199, heap.type(-1, -1, -1, -1, 0x00FFFFFF));
        Checks.illegalState("11 over 200 by a", () -> heap.type(-1, 0, 0, 0, 0));
        Checks.illegalState("11 over 200 by b", () -> heap.type(0, -1, 0, 0, 0));
        Checks.illegalState("11 over 200 by c", () -> heap.type(0, 0, -1, 0, 0));
        Checks.illegalState("11 over 200 by d", () -> heap.type(0, 0, 0, -1, 0));
        Checks.illegalState("11 over 200 by e", () -> heap.type(0, 0, 0, 0, -1));
        Checks.illegalState("11 over 200 by a and e", () -> heap.type(1, 0, 0, 0, 1));
        Checks.equal("11 which changes nothing", 199, heap.type(0, 0, 0, 0, 0));
        Checks.equal("11 exactly 200", 200, heap.type(0, 0, 0, 0, 1));
        Checks.equal("11 nothing more still goes", 200, heap.type(0, 0, 0, 0, 0));
        Checks.illegalState("11 one over 200", () -> heap.type(0, 1, 0, 0, 0));
        Checks.equal("11 had", 200, heap.erase());
    }

    private static void erase() {
        CellHeap heap = new CellHeap();
        Checks.equal("12 of the empty line", 0, heap.erase());
        Checks.typeText(heap, "12345");
        Checks.equal("12 had", 5, heap.erase());
        Checks.equal("12 is empty", 0, heap.erase());
        Checks.equal("12 reads as no number", CellHeap.SIGN, heap.read(0));
        Checks.typeText(heap, "67");
        heap.read(0);
        Checks.equal("12 begins anew", "67", Checks.written(heap, 0));
    }

    private static void readNumbers() {
        reads("0", "0", FIXED);
        reads("-0", "0", FIXED);
        reads("007", "7", FIXED);
        reads("-12", "-12", FIXED);
        reads("1073741823", "1073741823", FIXED);
        reads("1073741824", "1073741824", BIG);
        reads("-1073741824", "-1073741824", FIXED);
        reads("-1073741825", "-1073741825", BIG);
        reads("6/4", "3/2", FRACTION);
        reads("-6/4", "-3/2", FRACTION);
        reads("6/3", "2", FIXED);
        reads("6/1", "6", FIXED);
        reads("0/5", "0", FIXED);
        reads("-0/5", "0", FIXED);
        reads("1/0002", "1/2", FRACTION);
        reads("6000000000/4000000000", "3/2", FRACTION);
        reads(LARGEST.toString(), LARGEST.toString(), BIG);
        reads("-" + LARGEST, "-" + LARGEST, BIG);
        reads("0000000" + LARGEST, LARGEST.toString(), BIG);
        reads("1/" + LARGEST, "1/" + LARGEST, FRACTION);
        CellHeap heap = new CellHeap();
        Checks.readText(heap, 0, "8");
        heap.read(1);
        Checks.equal("13 the line stays", "8", Checks.written(heap, 1));
        for (int wrong : NO_REGISTERS) {
            Checks.illegalArgument("13 read(" + wrong + ")", () -> heap.read(wrong));
        }
    }

    private static void reads(String text, String due, int sort) {
        CellHeap heap = new CellHeap();
        Checks.equal("13 read " + text, 0, Checks.readText(heap, 4, text));
        Checks.equal("13 " + text, due, Checks.written(heap, 4));
        Checks.equal("13 sort of " + text, sort, heap.value(4, 0));
    }

    private static void readRefused() {
        String[] none = {"", "-", "/", "1/", "/2", "-/2", "--1", "+1", "1-", "1/-2", "1//2", "1/2/3", " 1", "1 ",
            "1/2 ", "1.5", "1a", "a", "1:", "1\u00B2", "1/2:", "-1/", "1 2", "0/0x", "0/a"};
        for (String text : none) {
            refuses(text, CellHeap.SIGN);
        }
        String over = LARGEST.add(BigInteger.ONE).toString();
        refuses("1/0", CellHeap.ZERO);
        refuses("0/0", CellHeap.ZERO);
        refuses("-5/000", CellHeap.ZERO);
        refuses(over + "/0", CellHeap.ZERO);
        refuses(over, CellHeap.LARGE);
        refuses("-" + over, CellHeap.LARGE);
        refuses("2/" + over, CellHeap.LARGE);
        refuses(over + "/2", CellHeap.LARGE);
        refuses("0/" + over, CellHeap.LARGE);
        refuses(over + "/", CellHeap.SIGN);
        refuses(over + "x", CellHeap.SIGN);
        readOut();
    }

    private static void refuses(String text, int due) {
        CellHeap heap = new CellHeap();
        heap.load(1, 1L << 33);
        String before = Checks.state(heap);
        Checks.equal("13 read of " + text, due, Checks.readText(heap, 1, text));
        Checks.equal("13 refused ones change nothing", before, Checks.state(heap));
        Checks.equal("13 nor the line", text.length(), heap.erase());
    }

    private static void readOut() {
        CellHeap heap = new CellHeap();
        fillWithList(heap, 0, 132);
        Checks.equal("13 2 big ones and a fraction", CellHeap.OUT, Checks.readText(heap, 1, "3/10000000000"));
        Checks.equal("13 out collects", 1, heap.count(1));
        Checks.equal("13 large needs no cells", CellHeap.LARGE, Checks.readText(heap, 1, LARGEST + "0"));
        Checks.equal("13 large collects nothing", 1, heap.count(1));
        Checks.equal("13 what fits", 0, Checks.readText(heap, 1, "3/10"));
        Checks.equal("13 is at the end", 396, heap.value(1, 1));
        Checks.equal("13 fixed ones fit always", 0, Checks.readText(heap, 1, "35/7"));
    }

    private static void writeValues() {
        CellHeap heap = new CellHeap();
        Checks.equal("14 nil", "()", Checks.written(heap, 0));
        heap.load(0, 0);
        Checks.equal("14 0", "0", Checks.written(heap, 0));
        heap.load(0, 1_000_000_000_000_000_000L);
        Checks.equal("14 zeros inside", "1000000000000000000", Checks.written(heap, 0));
        heap.load(0, 1);
        heap.cons(1, 7, 7);
        Checks.equal("14 a list of nil", "(())", Checks.written(heap, 1));
        heap.cons(1, 0, 1);
        Checks.equal("14 nil behind 1", "(1 ())", Checks.written(heap, 1));
        heap.cons(2, 1, 0);
        Checks.equal("14 a point", "((1 ()) . 1)", Checks.written(heap, 2));
        heap.cons(2, 0, 2);
        Checks.equal("14 a point at the end", "(1 (1 ()) . 1)", Checks.written(heap, 2));
        Checks.readText(heap, 3, "-10/4");
        heap.cons(2, 3, 3);
        Checks.equal("14 fractions", "(-5/2 . -5/2)", Checks.written(heap, 2));
        heap.cons(2, 2, 7);
        heap.cons(2, 2, 7);
        heap.cons(2, 2, 2);
        Checks.equal("14 deep and shared", "((((-5/2 . -5/2))) ((-5/2 . -5/2)))", Checks.written(heap, 2));
        Checks.equal("14 how many", 35, heap.write(2));
        for (int wrong : NO_REGISTERS) {
            Checks.illegalArgument("14 write(" + wrong + ")", () -> heap.write(wrong));
        }
        Checks.equal("14 a wrong one keeps the output", ')', heap.output(34));
    }

    private static void writeFull() {
        CellHeap heap = new CellHeap();
        heap.load(0, 12);
        for (int i = 0; i < 132; i++) {
            heap.cons(1, 0, 1);
        }
        Checks.equal("14 132 numbers of two digits", 397, heap.write(1));
        heap.load(0, 12345);
        heap.cons(1, 0, 1);
        Checks.equal("14 and one of five", CellHeap.FULL, heap.write(1));
        Checks.equal("14 full leaves none", ' ', heap.output(0));
        heap.load(0, 12);
        heap.change(1, true, 0);
        Checks.equal("14 exactly 400", 400, heap.write(1));
        Checks.equal("14 the last one", ')', heap.output(399));
        heap.load(0, 123);
        heap.change(1, true, 0);
        Checks.equal("14 401", CellHeap.FULL, heap.write(1));
        Checks.equal("14 none of 401", ' ', heap.output(399));
        heap.change(1, true, 1);
        Checks.equal("14 round by the first", CellHeap.FULL, heap.write(1));
        heap.change(1, true, 0);
        heap.change(1, false, 1);
        Checks.equal("14 round by the second", CellHeap.FULL, heap.write(1));
        heap.change(1, false, 7);
        Checks.equal("14 cut off", "(123)", Checks.written(heap, 1));
        writeDeep();
    }

    private static void writeDeep() {
        CellHeap heap = new CellHeap();
        for (int i = 0; i < 133; i++) {
            heap.cons(0, 0, 7);
        }
        Checks.equal("14 deep", 2 * 133 + 2, heap.write(0));
        heap.nil(0);
        for (int i = 0; i < 100; i++) {
            heap.cons(0, 0, 0);
        }
        Checks.equal("14 ever twice itself", CellHeap.FULL, heap.write(0));
        Checks.readText(heap, 1, LARGEST.toString());
        Checks.equal("14 the longest whole number", LARGEST.toString(), Checks.written(heap, 1));
    }

    private static void output() {
        CellHeap heap = new CellHeap();
        heap.load(0, -12);
        heap.write(0);
        Checks.equal("15 first", '-', heap.output(0));
        Checks.equal("15 last", '2', heap.output(2));
        Checks.equal("15 beyond", ' ', heap.output(3));
        Checks.equal("15 below", ' ', heap.output(-1));
        Checks.equal("15 far below", ' ', heap.output(Integer.MIN_VALUE));
        Checks.equal("15 far beyond", ' ', heap.output(Integer.MAX_VALUE));
        Checks.equal("15 at 400", ' ', heap.output(400));
        heap.load(0, 7);
        Checks.equal("15 stays till the next write", '-', heap.output(0));
        heap.write(0);
        Checks.equal("15 is made anew", '7', heap.output(0));
        Checks.equal("15 nothing old is left", ' ', heap.output(1));
    }

    private static void collect() {
        CellHeap heap = new CellHeap();
        Checks.equal("16 of nothing", 0, heap.collect());
        heap.load(0, 1L << 40);
        heap.load(1, -(1L << 50));
        heap.load(2, 1L << 31);
        heap.cons(3, 1, 2);
        heap.nil(0);
        heap.nil(1);
        heap.nil(2);
        Checks.equal("16 free then", 3, heap.collect());
        Checks.equal("16 slid down", 5, heap.value(3, 1));
        Checks.equal("16 with its values", "(-1125899906842624 . 2147483648)", Checks.written(heap, 3));
        Checks.equal("16 nothing more", 0, heap.collect());
        Checks.equal("16 counted", 3, heap.count(1));
        heap.nil(3);
        Checks.equal("16 all of it", 8, heap.collect());
        Checks.equal("16 top", 0, heap.count(0));
    }

    private static void collectShared() {
        CellHeap heap = new CellHeap();
        heap.load(0, 3);
        heap.cons(1, 0, 7);
        heap.cons(2, 0, 7);
        heap.cons(3, 2, 2);
        heap.change(2, false, 3);
        Checks.readText(heap, 4, "10000000000/10000000001");
        heap.nil(1);
        heap.nil(2);
        Checks.equal("16 one pair is gone", 3, heap.collect());
        heap.part(5, 3, true);
        heap.part(6, 3, false);
        Checks.equal("16 still shared", 1, heap.same(5, 6) ? 1 : 0);
        heap.part(6, 5, false);
        Checks.equal("16 still runs round", 1, heap.same(6, 3) ? 1 : 0);
        Checks.equal("16 a fraction keeps its parts", "10000000000/10000000001", Checks.written(heap, 4));
        Checks.equal("16 the order stays", 12, heap.value(4, 1));
        heap.nil(3);
        heap.nil(5);
        heap.nil(6);
        Checks.equal("16 what runs round is gone at once", 6, heap.collect());
        Checks.equal("16 the fraction slid", 6, heap.value(4, 1));
    }

    private static void wantingCells() {
        CellHeap heap = new CellHeap();
        for (int i = 0; i < 133; i++) {
            heap.cons(0, 1, 1);
        }
        Checks.equal("16 no collection yet", 0, heap.count(1));
        Checks.equal("16 one is wanted", 3, heap.cons(2, 0, 1));
        Checks.equal("16 and was", 1, heap.count(1));
        Checks.equal("16 what the register had is kept until then", 2, heap.count(2));
        fillWithList(heap, 3, 131);
        Checks.equal("16 top", 399, heap.count(0));
        Checks.equal("16 out", CellHeap.OUT, heap.load(0, 1L << 30));
        Checks.equal("16 the register's own object is no room", CellHeap.OUT, heap.cons(3, 1, 1));
        Checks.equal("16 it still is there", 131, lengthOf(heap, 3));
        CellHeap exact = new CellHeap();
        Checks.readText(exact, 0, LARGEST.toString());
        exact.load(1, 1L << 30);
        fillWithList(exact, 2, 125);
        Checks.equal("16 top", 398, exact.count(0));
        Checks.equal("16 exactly as many as are left", 0, exact.load(1, 1L << 31));
        Checks.equal("16 no collection for it", 0, exact.count(1));
        Checks.equal("16 top at the end", 400, exact.count(0));
    }

    private static void value() {
        CellHeap heap = new CellHeap();
        heap.load(1, -9);
        heap.load(2, 1L << 32);
        Checks.readText(heap, 3, "-1/4294967296");
        heap.cons(4, 0, 1);
        int[][] due = {{0, -1, 0, 0}, {1, -1, 0, -9}, {2, 0, 3, 0}, {3, 6, 3, 0}, {4, 9, 3, 0}};
        for (int register = 0; register < due.length; register++) {
            for (int what = 0; what < 4; what++) {
                String call = "17 value(" + register + ", " + what + ")";
                Checks.equal(call, due[register][what], heap.value(register, what));
            }
        }
        for (int wrong : NO_REGISTERS) {
            Checks.illegalArgument("17 value(" + wrong + ", 0)", () -> heap.value(wrong, 0));
        }
        Checks.illegalArgument("17 what -1", () -> heap.value(0, -1));
        Checks.illegalArgument("17 what 4", () -> heap.value(0, 4));
    }

    private static void count() {
        CellHeap heap = new CellHeap();
        Checks.readText(heap, 0, "10000000000/10000000001");
        heap.load(1, 1L << 30);
        heap.cons(2, 1, 1);
        heap.nil(1);
        Checks.equal("18 top", 14, heap.count(0));
        Checks.equal("18 collections", 0, heap.count(1));
        Checks.equal("18 objects", 5, heap.count(2));
        Checks.equal("18 that live", 5, heap.count(3));
        heap.nil(0);
        Checks.equal("18 objects still", 5, heap.count(2));
        Checks.equal("18 that live now", 2, heap.count(3));
        Checks.equal("18 counting is no collection", 0, heap.count(1));
        heap.collect();
        Checks.equal("18 collections then", 1, heap.count(1));
        Checks.equal("18 objects then", 2, heap.count(2));
        Checks.equal("18 top then", 5, heap.count(0));
        Checks.illegalArgument("18 what -1", () -> heap.count(-1));
        Checks.illegalArgument("18 what 4", () -> heap.count(4));
    }

    /** A list of so many NILs, none of them free. */
    private static void fillWithList(CellHeap heap, int register, int many) {
        heap.nil(register);
        heap.nil(7);
        for (int i = 0; i < many; i++) {
            heap.cons(register, 7, register);
        }
    }

    private static int lengthOf(CellHeap heap, int register) {
        int length = 0;
        heap.copy(6, register);
        while (length < 400 && heap.part(6, 6, false) == 0) {
            length++;
        }
        return length;
    }
}
