import java.math.BigInteger;
import java.util.ArrayList;
import java.util.List;
import java.util.function.Consumer;
import java.util.function.ToIntFunction;

/** The terms of the heap, of wanting cells and of a collection: a test for each sentence that names a boundary. */
public final class HeapBoundaryTest {
    private static final int LIST = 3;
    private static final int SPARE = 7;
    private static final int GARBAGE = 6;
    private static final int MADE = 2;

    /** A call that wants cells: how many, how many of them are the object's own, and what must stand before it. */
    private static final class Maker {
        final String name;
        final int wanted;
        final int own;
        final Consumer<CellHeap> prepare;
        final ToIntFunction<CellHeap> make;

        Maker(String name, int wanted, int own, Consumer<CellHeap> prepare, ToIntFunction<CellHeap> make) {
            this.name = name;
            this.wanted = wanted;
            this.own = own;
            this.prepare = prepare;
            this.make = make;
        }
    }

    private static final List<Maker> MAKERS = new ArrayList<>();

    public static void main(String[] args) {
        listMakers();
        Checks.test("THE HEAP has 400 CELLS", HeapBoundaryTest::fourHundredCells);
        Checks.test("CELLS, 0 first", HeapBoundaryTest::firstCell);
        Checks.test("those below TOP are used (0 at first)", HeapBoundaryTest::topAtFirst);
        Checks.test("REGISTERS 0 .. 7 have a VALUE each", HeapBoundaryTest::eightRegisters);
        Checks.test("NIL (at first)", HeapBoundaryTest::nilAtFirst);
        Checks.test("a FIXED number from -2^30", HeapBoundaryTest::lowestFixed);
        Checks.test("a FIXED number to 2^30 - 1", HeapBoundaryTest::highestFixed);
        Checks.test("OBJECTS lie one behind the other, from CELL 0 to TOP", HeapBoundaryTest::oneBehindTheOther);
        Checks.test("a PAIR of two VALUES has 3 CELLS", HeapBoundaryTest::pairHasThree);
        Checks.test("a BIG whole number, which is none of the FIXED ones", HeapBoundaryTest::bigIsNotFixed);
        Checks.test("BIG: 1 and one for each 32 bits of its size", HeapBoundaryTest::cellsOfBig);
        Checks.test("BIG: the fewest that it takes", HeapBoundaryTest::fewestCells);
        Checks.test("BIG: at most 20", HeapBoundaryTest::atMostTwenty);
        Checks.test("a FRACTION has 3 CELLS", HeapBoundaryTest::fractionHasThree);
        Checks.test("FRACTION: the lower one above 1", HeapBoundaryTest::lowerAboveOne);
        Checks.test("FRACTION: without a common divisor", HeapBoundaryTest::noCommonDivisor);
        Checks.test("WANTING: if fewer are left there is a COLLECTION", HeapBoundaryTest::fewerAreLeft);
        Checks.test("WANTING: if as many are left there is none", HeapBoundaryTest::asManyAreLeft);
        Checks.test("WANTING: if there still are fewer, OUT", HeapBoundaryTest::stillFewer);
        Checks.test("WANTING: just enough behind a COLLECTION", HeapBoundaryTest::justEnoughBehindIt);
        Checks.test("OUT: nothing else happens (but the COLLECTION)", HeapBoundaryTest::outAndNothingElse);
        Checks.test("What is made begins at TOP", HeapBoundaryTest::beginsAtTop);
        Checks.test("a FIXED one needs no CELL", HeapBoundaryTest::fixedNeedsNone);
        Checks.test("a BIG one its own", HeapBoundaryTest::bigNeedsItsOwn);
        Checks.test("a FRACTION: the upper one, if it is BIG, the lower one, if it is, itself",
                HeapBoundaryTest::fractionNeedsItsParts);
        Checks.test("They are WANTED all at once", HeapBoundaryTest::allAtOnce);
        Checks.test("COLLECTION: OBJECTS that no REGISTER has are gone", HeapBoundaryTest::unheldAreGone);
        Checks.test("COLLECTION: each REGISTER keeps its OBJECT", HeapBoundaryTest::eachRegisterKeeps);
        Checks.test("COLLECTION: nor an OBJECT that a REGISTER leads to", HeapBoundaryTest::ledToAreKept);
        Checks.test("COLLECTION: lists that run round", HeapBoundaryTest::roundLists);
        Checks.test("COLLECTION: the longest list", HeapBoundaryTest::longestLists);
        Checks.test("COLLECTION: the others slide down in their order", HeapBoundaryTest::slideInOrder);
        Checks.test("COLLECTION: there is no CELL between them", HeapBoundaryTest::noCellBetween);
        Checks.test("COLLECTION: VALUES tell their new places", HeapBoundaryTest::newPlaces);
        Checks.test("COLLECTION that the call itself causes", HeapBoundaryTest::operandsSlide);
        Checks.test("COLLECTION: of an empty heap, of one where all live", HeapBoundaryTest::nothingIsGone);
        Checks.finish();
    }

    private static void listMakers() {
        addMaker("load of 2 cells", 2, 2, "", "", h -> h.load(MADE, 1L << 30));
        addMaker("load of 2 cells below 0", 2, 2, "", "", h -> h.load(MADE, -(1L << 30) - 1));
        addMaker("load of 3 cells", 3, 3, "", "", h -> h.load(MADE, Long.MIN_VALUE));
        addMaker("cons", 3, 3, "1", "2", h -> Math.min(0, h.cons(MADE, 0, 1)));
        addMaker("a sum", 2, 2, "1073741823", "1", h -> h.work(MADE, 0, 1, 0));
        addMaker("a difference", 2, 2, "-1073741824", "1", h -> h.work(MADE, 0, 1, 1));
        addMaker("a product", 3, 3, "65536", "65536", h -> h.work(MADE, 0, 1, 2));
        addMaker("a ratio that is whole", 2, 2, "-1073741824", "-1", h -> h.work(MADE, 0, 1, 3));
        addMaker("a fraction", 3, 3, "6", "4", h -> h.work(MADE, 0, 1, 3));
        addMaker("a fraction, the upper one BIG", 5, 3, "1073741824", "3", h -> h.work(MADE, 0, 1, 3));
        addMaker("a fraction, the lower one BIG", 6, 3, "-3", "4294967296", h -> h.work(MADE, 0, 1, 3));
        addMaker("a fraction, both BIG", 8, 3, "4294967296", "1073741825", h -> h.work(MADE, 0, 1, 3));
        addMaker("a quotient", 2, 2, "-1073741824", "-1", h -> h.work(MADE, 0, 1, 4));
        addMaker("a remainder", 2, 2, "1073741824", "4294967296", h -> h.work(MADE, 0, 1, 5));
        addMaker("a divisor", 2, 2, "-1073741824", "0", h -> h.work(MADE, 0, 1, 6));
        addReader("1073741824", 2, 2);
        addReader("-18446744073709551616", 4, 4);
        addReader(Scenes.LARGEST.toString(), 21, 21);
        addReader("-1/2", 3, 3);
        addReader("1073741824/3", 5, 3);
        addReader("3/4294967296", 6, 3);
        addReader("-4294967296/1073741825", 8, 3);
    }

    private static void addMaker(String name, int wanted, int own, String a, String b, ToIntFunction<CellHeap> make) {
        MAKERS.add(new Maker(name, wanted, own, heap -> {
            if (!a.isEmpty()) {
                Checks.readText(heap, 0, a);
                Checks.readText(heap, 1, b);
            }
        }, make));
    }

    private static void addReader(String text, int wanted, int own) {
        MAKERS.add(new Maker("read of " + text, wanted, own, heap -> Checks.typeText(heap, text), h -> h.read(MADE)));
    }

    /** The maker's operands, garbage of so many cells (0, 2 or more), and life up to so many cells that are left. */
    private static CellHeap leaving(Maker maker, int left, int garbage) {
        CellHeap heap = new CellHeap();
        maker.prepare.accept(heap);
        if (garbage > 0) {
            heap.load(GARBAGE, 1L << (garbage == 2 ? 31 : 40));
            heap.nil(GARBAGE);
        }
        Scenes.fill(heap, LIST, SPARE, Scenes.CELLS - left);
        return heap;
    }

    private static void fourHundredCells() {
        CellHeap heap = new CellHeap();
        Scenes.fill(heap, LIST, SPARE, 398);
        Checks.equal("the last two", 0, heap.load(0, 1L << 30));
        Checks.equal("top", 400, heap.count(0));
        Checks.equal("no more", CellHeap.OUT, heap.load(1, 1L << 30));
        CellHeap other = new CellHeap();
        Scenes.fill(other, LIST, SPARE, 399);
        Checks.equal("one is no two", CellHeap.OUT, other.load(0, 1L << 30));
    }

    private static void firstCell() {
        CellHeap heap = new CellHeap();
        Checks.equal("cons answers", 0, heap.cons(0, 1, 2));
        Checks.equal("cons", 0, heap.value(0, 1));
        heap = new CellHeap();
        heap.load(3, 1L << 30);
        Checks.equal("load", 0, heap.value(3, 1));
        heap = Scenes.withNumbers("1/2");
        Checks.equal("read", 0, heap.value(0, 1));
        heap = Scenes.withNumbers("1073741823", "1");
        heap.work(2, 0, 1, 0);
        Checks.equal("work", 0, heap.value(2, 1));
    }

    private static void topAtFirst() {
        Checks.equal("top", 0, new CellHeap().count(0));
    }

    private static void eightRegisters() {
        CellHeap heap = new CellHeap();
        for (int register = 0; register < 8; register++) {
            heap.load(register, 100 + register);
        }
        for (int register = 0; register < 8; register++) {
            Checks.equal("register " + register, 100 + register, heap.value(register, 3));
        }
        Checks.illegalArgument("register -1", () -> heap.load(-1, 1));
        Checks.illegalArgument("register 8", () -> heap.load(8, 1));
    }

    private static void nilAtFirst() {
        CellHeap heap = new CellHeap();
        for (int register = 0; register < 8; register++) {
            Checks.equal("sort of " + register, Scenes.NIL, heap.value(register, 0));
            Checks.equal("text of " + register, "()", Checks.written(heap, register));
        }
    }

    private static void lowestFixed() {
        sorted("-1073741824", Scenes.FIXED, 0);
        sorted("-1073741825", Scenes.BIG, 2);
    }

    private static void highestFixed() {
        sorted("1073741823", Scenes.FIXED, 0);
        sorted("1073741824", Scenes.BIG, 2);
    }

    /** Made by load, by read and by work. */
    private static void sorted(String text, int sort, int cells) {
        long number = Long.parseLong(text);
        CellHeap heap = Scenes.withNumbers(text);
        heap.load(1, number);
        heap.load(3, number - 1);
        heap.load(4, 1);
        heap.work(2, 3, 4, 0);
        for (int register = 0; register < 3; register++) {
            Checks.equal("sort of " + text, sort, heap.value(register, 0));
            Checks.equal("cells of " + text, cells, heap.value(register, 2));
            Checks.equal("the fixed number " + text, sort == Scenes.FIXED ? number : 0, heap.value(register, 3));
            Checks.equal("text of " + text, text, Checks.written(heap, register));
        }
    }

    private static void oneBehindTheOther() {
        CellHeap heap = new CellHeap();
        heap.load(0, 1L << 30);
        heap.load(1, 1L << 32);
        heap.cons(2, 0, 1);
        Checks.readText(heap, 3, "1/2");
        Checks.readText(heap, 4, "4294967296/1073741825");
        heap.load(5, 1L << 30);
        int[] cells = {0, 2, 5, 8, 16, 19};
        for (int register = 0; register < cells.length; register++) {
            Checks.equal("cell of " + register, cells[register], heap.value(register, 1));
        }
        Checks.equal("top", 21, heap.count(0));
        Checks.equal("objects", 8, heap.count(2));
    }

    private static void pairHasThree() {
        CellHeap heap = new CellHeap();
        heap.cons(0, 1, 2);
        Checks.equal("of NILs", 3, heap.value(0, 2));
        Checks.equal("top", 3, heap.count(0));
        heap.load(1, 1L << 62);
        heap.cons(0, 1, 1);
        Checks.equal("of BIG ones", 3, heap.value(0, 2));
        Checks.equal("top then", 9, heap.count(0));
    }

    private static void bigIsNotFixed() {
        CellHeap heap = Scenes.withNumbers("1073741824", "1", "-1073741825", "4294967296");
        heap.work(0, 0, 1, 1);
        Checks.equal("2^30 - 1", Scenes.FIXED, heap.value(0, 0));
        heap.work(2, 2, 1, 0);
        Checks.equal("-2^30", Scenes.FIXED, heap.value(2, 0));
        heap.work(3, 3, 3, 1);
        Checks.equal("0", Scenes.FIXED, heap.value(3, 0));
        heap.collect();
        Checks.equal("none has a cell", 0, heap.count(0));
    }

    private static void cellsOfBig() {
        for (int words = 1; words <= 20; words++) {
            BigInteger beyond = BigInteger.ONE.shiftLeft(32 * words);
            hasCells(beyond.subtract(BigInteger.ONE), words + 1);
            hasCells(beyond.shiftRight(1), words + 1);
            if (words < 20) {
                hasCells(beyond, words + 2);
            }
        }
        hasCells(BigInteger.ONE.shiftLeft(30).add(BigInteger.ONE), 2);
        hasCells(BigInteger.ONE.shiftLeft(31), 2);
    }

    private static void hasCells(BigInteger size, int cells) {
        CellHeap heap = Scenes.withNumbers(size.toString(), size.negate().toString());
        Checks.equal("cells of " + size, cells, heap.value(0, 2));
        Checks.equal("cells of it below 0", cells, heap.value(1, 2));
        Checks.equal("text of " + size, size.toString(), Checks.written(heap, 0));
        Checks.equal("top", 2 * cells, heap.count(0));
    }

    /** Where a difference, a quotient or a remainder has less words than what it is made of. */
    private static void fewestCells() {
        for (int words = 1; words < 20; words++) {
            BigInteger power = BigInteger.ONE.shiftLeft(32 * words);
            CellHeap heap = Scenes.withNumbers(power.toString(), "-1", power.add(BigInteger.ONE).toString());
            heap.work(3, 0, 1, 0);
            Checks.equal("2^(32 * " + words + ") - 1", words + 1, heap.value(3, 2));
            heap.work(4, 2, 0, 1);
            Checks.equal("its difference to the next", 1, heap.value(4, 3));
            heap.work(5, 2, 0, 5);
            Checks.equal("its remainder", 1, heap.value(5, 3));
            heap.work(6, 2, 2, 4);
            Checks.equal("its quotient", 1, heap.value(6, 3));
            heap.work(6, 0, 0, 6);
            Checks.equal("its divisor", words + 2, heap.value(6, 2));
        }
    }

    private static void atMostTwenty() {
        String most = Scenes.LARGEST.toString();
        CellHeap heap = Scenes.withNumbers(most, "-" + most);
        Checks.equal("20 and 1", 21, heap.value(0, 2));
        Checks.equal("below 0", 21, heap.value(1, 2));
        String over = Scenes.LARGEST.add(BigInteger.ONE).toString();
        Checks.equal("one more", CellHeap.LARGE, Checks.readText(heap, 2, over));
    }

    private static void fractionHasThree() {
        CellHeap heap = Scenes.withNumbers("1/2", "4294967296/3", "3/4294967296", "-4294967296/4294967297");
        int[] cells = {0, 6, 12, 21};
        for (int register = 0; register < cells.length; register++) {
            Checks.equal("cells of " + register, 3, heap.value(register, 2));
            Checks.equal("cell of " + register, cells[register], heap.value(register, 1));
        }
    }

    private static void lowerAboveOne() {
        String[] whole = {"5/1", "-5/1", "6/3", "-6/3", "0/7", "-0/7", "0/1", "4294967296/4294967296"};
        String[] due = {"5", "-5", "2", "-2", "0", "0", "0", "1"};
        for (int i = 0; i < whole.length; i++) {
            CellHeap heap = Scenes.withNumbers(whole[i]);
            Checks.equal("sort of " + whole[i], Scenes.FIXED, heap.value(0, 0));
            Checks.equal("text of " + whole[i], due[i], Checks.written(heap, 0));
        }
        CellHeap heap = Scenes.withNumbers("1/2", "-2");
        heap.work(2, 0, 0, 0);
        Checks.equal("1/2 + 1/2", Scenes.FIXED, heap.value(2, 0));
        heap.work(2, 0, 1, 2);
        Checks.equal("1/2 * -2", "-1", Checks.written(heap, 2));
        heap.work(2, 0, 1, 3);
        Checks.equal("the lower one is not below 0", "-1/4", Checks.written(heap, 2));
        heap.work(2, 1, 2, 3);
        Checks.equal("-2 over -1/4", "8", Checks.written(heap, 2));
        Checks.equal("the smallest lower one", Scenes.FRACTION, heap.value(0, 0));
    }

    private static void noCommonDivisor() {
        String[][] told = {{"6/4", "3/2"}, {"-6/4", "-3/2"}, {"2/4", "1/2"}, {"35/21", "5/3"},
            {"6000000000/4000000000", "3/2"}, {"4294967296/6", "2147483648/3"},
            {"6/4294967296", "3/2147483648"}, {"18446744073709551616/12884901888", "4294967296/3"},
            {Scenes.LARGEST + "/6", Scenes.LARGEST.divide(BigInteger.valueOf(3)) + "/2"}};
        for (String[] both : told) {
            CellHeap heap = Scenes.withNumbers(both[0]);
            Checks.equal("text of " + both[0], both[1], Checks.written(heap, 0));
            String[] parts = both[0].split("/");
            CellHeap other = Scenes.withNumbers(parts[0], parts[1]);
            other.work(2, 0, 1, 3);
            Checks.equal("made of both " + both[0], both[1], Checks.written(other, 2));
        }
    }

    private static void fewerAreLeft() {
        for (Maker maker : MAKERS) {
            CellHeap heap = leaving(maker, maker.wanted - 1, 3);
            Checks.equal(maker.name, 0, maker.make.applyAsInt(heap));
            Checks.equal(maker.name + " collects once", 1, heap.count(1));
            Checks.equal(maker.name + ", top", Scenes.CELLS - maker.wanted + 1 - 3 + maker.wanted, heap.count(0));
        }
    }

    private static void asManyAreLeft() {
        for (Maker maker : MAKERS) {
            CellHeap heap = leaving(maker, maker.wanted, 3);
            Checks.equal(maker.name, 0, maker.make.applyAsInt(heap));
            Checks.equal(maker.name + " collects not", 0, heap.count(1));
            Checks.equal(maker.name + ", top", Scenes.CELLS, heap.count(0));
            Checks.equal(maker.name + ", the garbage stays", heap.count(3) + 1, heap.count(2));
        }
    }

    private static void stillFewer() {
        for (Maker maker : MAKERS) {
            CellHeap heap = leaving(maker, maker.wanted - 1, 0);
            Checks.equal(maker.name, CellHeap.OUT, maker.make.applyAsInt(heap));
            Checks.equal(maker.name + " collects once", 1, heap.count(1));
            Checks.equal(maker.name + " again", CellHeap.OUT, maker.make.applyAsInt(heap));
            Checks.equal(maker.name + " collects again", 2, heap.count(1));
            if (maker.wanted > 2) {
                CellHeap other = leaving(maker, maker.wanted - 3, 2);
                Checks.equal(maker.name + ", one cell too few", CellHeap.OUT, maker.make.applyAsInt(other));
            }
        }
    }

    private static void justEnoughBehindIt() {
        for (Maker maker : MAKERS) {
            CellHeap heap = leaving(maker, maker.wanted - 2, 2);
            Checks.equal(maker.name, 0, maker.make.applyAsInt(heap));
            Checks.equal(maker.name + " collects once", 1, heap.count(1));
            Checks.equal(maker.name + ", top", Scenes.CELLS, heap.count(0));
        }
    }

    private static void outAndNothingElse() {
        for (Maker maker : MAKERS) {
            int garbage = maker.wanted > 2 ? 2 : 0;
            CellHeap heap = leaving(maker, maker.wanted - 1 - garbage, garbage);
            CellHeap other = leaving(maker, maker.wanted - 1 - garbage, garbage);
            Checks.equal(maker.name, CellHeap.OUT, maker.make.applyAsInt(heap));
            Checks.equal("what comes free", garbage, other.collect());
            Checks.equal(maker.name + " is but a collection", Checks.state(other), Checks.state(heap));
            Checks.equal(maker.name + ", the register", Scenes.NIL, heap.value(MADE, 0));
            Checks.equal(maker.name + ", the line", other.erase(), heap.erase());
        }
        CellHeap heap = Scenes.fullOfLife();
        CellHeap other = Scenes.fullOfLife();
        Checks.equal("in a full heap", CellHeap.OUT, heap.work(0, 0, 2, 0));
        other.collect();
        Checks.equal("in a full heap it is but a collection", Scenes.seen(other), Scenes.seen(heap));
    }

    private static void beginsAtTop() {
        for (Maker maker : MAKERS) {
            CellHeap heap = new CellHeap();
            maker.prepare.accept(heap);
            int top = heap.count(0);
            maker.make.applyAsInt(heap);
            Checks.equal(maker.name, top + maker.wanted - maker.own, heap.value(MADE, 1));
            Checks.equal(maker.name + ", its own cells", maker.own, heap.value(MADE, 2));
            Checks.equal(maker.name + ", top", top + maker.wanted, heap.count(0));
            CellHeap other = leaving(maker, maker.wanted - 1, 3);
            maker.make.applyAsInt(other);
            int slid = Scenes.CELLS - maker.wanted + 1 - 3;
            Checks.equal(maker.name + " behind a collection", slid + maker.wanted - maker.own, other.value(MADE, 1));
        }
    }

    private static void fixedNeedsNone() {
        CellHeap heap = Scenes.fullOfGarbage();
        Checks.equal("load", 0, heap.load(7, -(1L << 30)));
        Checks.equal("load of the highest", 0, heap.load(7, (1L << 30) - 1));
        for (int way = 0; way < 7; way++) {
            Checks.equal("work, way " + way, 0, heap.work(7, 0, 0, way));
        }
        Checks.equal("of a BIG one", 0, heap.work(7, 2, 2, 1));
        Checks.equal("of the largest", 0, heap.work(7, 6, 6, 5));
        Checks.equal("of a FRACTION", 0, heap.work(7, 5, 5, 3));
        Checks.equal("read", 0, heap.read(7));
        Checks.equal("what is read", -3, heap.value(7, 3));
        Checks.equal("no collection", 0, heap.count(1));
        Checks.equal("top", Scenes.CELLS, heap.count(0));
        CellHeap life = Scenes.fullOfLife();
        Checks.equal("load among life", 0, life.load(0, 9));
        Checks.equal("no collection of life", 0, life.count(1));
    }

    private static void bigNeedsItsOwn() {
        String[] numbers = {"1073741824", "4294967296", "-18446744073709551616", Scenes.LARGEST.toString()};
        int[] cells = {2, 3, 4, 21};
        for (int i = 0; i < numbers.length; i++) {
            CellHeap heap = Scenes.withNumbers("1", numbers[i]);
            heap.work(2, 1, 0, 2);
            Checks.equal("top with two of " + numbers[i], 2 * cells[i], heap.count(0));
            Checks.equal("objects", 2, heap.count(2));
            Checks.equal("a new one", 0, heap.same(1, 2) ? 1 : 0);
        }
    }

    private static void fractionNeedsItsParts() {
        needs("1/2", 3, 1);
        needs("-1073741824/1073741823", 3, 1);
        needs("1073741824/1073741823", 5, 2);
        needs("-1073741825/1073741823", 5, 2);
        needs("1073741823/1073741824", 5, 2);
        needs("-1073741825/1073741824", 7, 3);
        needs("4294967296/4294967295", 8, 3);
        needs("4294967295/4294967296", 8, 3);
    }

    private static void needs(String text, int cells, int objects) {
        CellHeap heap = Scenes.withNumbers(text);
        Checks.equal("top with " + text, cells, heap.count(0));
        Checks.equal("objects of " + text, objects, heap.count(2));
        Checks.equal("it comes behind its parts: " + text, cells - 3, heap.value(0, 1));
        Checks.equal("text of " + text, text, Checks.written(heap, 0));
        String[] parts = text.split("/");
        CellHeap made = Scenes.withNumbers(parts[0], parts[1]);
        int before = made.count(0);
        made.work(2, 0, 1, 3);
        Checks.equal("cells more with " + text, cells, made.count(0) - before);
        Checks.equal("the cell of " + text, made.count(0) - 3, made.value(2, 1));
    }

    /** Each count of cells that is left, from none to one too few: no part is made, and there is one collection. */
    private static void allAtOnce() {
        for (Maker maker : MAKERS) {
            for (int left = 0; left < maker.wanted; left++) {
                CellHeap heap = leaving(maker, left, 0);
                int objects = heap.count(2);
                Checks.equal(maker.name + ", left " + left, CellHeap.OUT, maker.make.applyAsInt(heap));
                Checks.equal(maker.name + ", top with " + left, Scenes.CELLS - left, heap.count(0));
                Checks.equal(maker.name + ", objects with " + left, objects, heap.count(2));
                Checks.equal(maker.name + ", collections with " + left, 1, heap.count(1));
            }
        }
    }

    private static void unheldAreGone() {
        CellHeap heap = Scenes.withNumbers("4294967296", "1/2", "4294967296/4294967297");
        heap.cons(3, 0, 1);
        Checks.equal("all live", 6, heap.count(3));
        heap.nil(3);
        Checks.equal("a pair", 3, heap.collect());
        heap.nil(2);
        Checks.equal("a fraction and its parts", 9, heap.collect());
        heap.load(1, 1);
        Checks.equal("a fraction", 3, heap.collect());
        heap.copy(0, 1);
        Checks.equal("a BIG number", 3, heap.collect());
        Checks.equal("top", 0, heap.count(0));
        Checks.equal("objects", 0, heap.count(2));
    }

    private static void eachRegisterKeeps() {
        for (int register = 0; register < 8; register++) {
            CellHeap heap = new CellHeap();
            int other = (register + 1) % 8;
            heap.load(other, 1L << 40);
            heap.load(register, 1L << 33);
            heap.nil(other);
            Checks.equal("register " + register, 3, heap.collect());
            Checks.equal("its cell", 0, heap.value(register, 1));
            Checks.equal("its text", "8589934592", Checks.written(heap, register));
        }
    }

    private static void ledToAreKept() {
        CellHeap heap = new CellHeap();
        heap.load(0, 1L << 31);
        heap.load(1, 1L << 32);
        heap.cons(2, 0, 7);
        heap.cons(2, 7, 2);
        heap.cons(2, 2, 1);
        Checks.readText(heap, 0, "4294967296/4294967297");
        heap.cons(2, 0, 2);
        heap.nil(0);
        heap.nil(1);
        Checks.equal("by the first, the second, a fraction", 0, heap.collect());
        Checks.equal("live", 9, heap.count(3));
        String text = "(4294967296/4294967297 (() 2147483648) . 4294967296)";
        Checks.equal("text", text, Checks.written(heap, 2));
    }

    private static void roundLists() {
        CellHeap heap = new CellHeap();
        heap.cons(0, 7, 7);
        heap.change(0, true, 0);
        heap.change(0, false, 0);
        heap.cons(1, 7, 0);
        heap.change(0, false, 1);
        Checks.equal("what runs round is kept", 0, heap.collect());
        heap.nil(0);
        Checks.equal("by either one", 0, heap.collect());
        heap.nil(1);
        Checks.equal("what runs round and is not held is gone", 6, heap.collect());
        Checks.equal("top", 0, heap.count(0));
    }

    private static void longestLists() {
        CellHeap heap = new CellHeap();
        for (int i = 0; i < 133; i++) {
            heap.cons(0, i % 2 == 0 ? 0 : 7, i % 2 == 0 ? 7 : 0);
        }
        heap.cons(1, 7, 7);
        Checks.equal("133 pairs live", 133, heap.count(3));
        Checks.equal("none is gone", 0, heap.collect());
        heap.nil(0);
        Checks.equal("all are gone", 399, heap.collect());
    }

    private static void slideInOrder() {
        CellHeap heap = new CellHeap();
        for (int register = 0; register < 8; register++) {
            heap.load(7 - register, (1L << 40) + register);
        }
        heap.nil(7);
        heap.nil(4);
        heap.nil(0);
        Checks.equal("gone", 9, heap.collect());
        int[] due = {-1, 12, 9, 6, -1, 3, 0, -1};
        for (int register = 0; register < 8; register++) {
            Checks.equal("cell of " + register, due[register], heap.value(register, 1));
            if (due[register] >= 0) {
                String text = String.valueOf((1L << 40) + 7 - register);
                Checks.equal("text of " + register, text, Checks.written(heap, register));
            }
        }
    }

    private static void noCellBetween() {
        CellHeap heap = new CellHeap();
        heap.load(0, 1L << 31);
        heap.load(1, 1L << 32);
        Checks.readText(heap, 2, Scenes.LARGEST.toString());
        heap.cons(3, 0, 0);
        heap.load(4, 1L << 31);
        heap.nil(1);
        Checks.equal("one in the middle", 3, heap.collect());
        int[] due = {0, -1, 2, 23, 26};
        for (int register = 0; register < due.length; register++) {
            Checks.equal("cell of " + register, due[register], heap.value(register, 1));
        }
        Checks.equal("top", 28, heap.count(0));
        heap.nil(4);
        Checks.equal("the last one", 2, heap.collect());
        Checks.equal("the others stay", 23, heap.value(3, 1));
        Checks.equal("the largest one slid whole", Scenes.LARGEST.toString(), Checks.written(heap, 2));
    }

    private static void newPlaces() {
        CellHeap heap = new CellHeap();
        heap.load(6, 1L << 50);
        heap.cons(0, 7, 7);
        heap.load(1, 1L << 40);
        heap.load(6, 1L << 51);
        heap.load(2, 1L << 31);
        heap.cons(3, 1, 2);
        heap.change(0, true, 3);
        heap.change(0, false, 2);
        heap.copy(4, 3);
        heap.load(6, 1L << 52);
        Checks.readText(heap, 5, "4294967296/1073741825");
        heap.nil(6);
        Checks.equal("gone", 9, heap.collect());
        int[] cells = {0, 3, 6, 8, 8, 16};
        for (int register = 0; register < cells.length; register++) {
            Checks.equal("of register " + register, cells[register], heap.value(register, 1));
        }
        heap.part(6, 0, true);
        Checks.equal("a first one, to what lies above", 8, heap.value(6, 1));
        heap.part(6, 0, false);
        Checks.equal("a second one", 6, heap.value(6, 1));
        heap.part(6, 3, true);
        Checks.equal("a first one, to what lies below", 3, heap.value(6, 1));
        String text = "((1099511627776 . 2147483648) . 2147483648)";
        Checks.equal("text", text, Checks.written(heap, 0));
        Checks.equal("a fraction's", "4294967296/1073741825", Checks.written(heap, 5));
    }

    /** What the call has as operands, and what its register still has, lives and slides in its own collection. */
    private static void operandsSlide() {
        CellHeap heap = new CellHeap();
        heap.load(6, 1L << 40);
        Checks.readText(heap, 0, "4294967297/4294967296");
        heap.load(1, 1L << 32);
        heap.load(2, 1L << 33);
        heap.nil(6);
        Scenes.fill(heap, 3, 7, 400);
        heap.part(3, 3, false);
        Checks.equal("a product", 0, heap.work(2, 0, 1, 2));
        Checks.equal("is due", "4294967297", Checks.written(heap, 2));
        Checks.equal("one collection", 1, heap.count(1));
        Checks.equal("the register's old object lived in it", heap.count(3) + 1, heap.count(2));
        consSlides();
    }

    private static void consSlides() {
        CellHeap heap = new CellHeap();
        heap.load(6, 1L << 40);
        heap.load(0, 1L << 41);
        heap.load(1, 1L << 42);
        heap.nil(6);
        Scenes.fill(heap, 3, 7, 399);
        Checks.equal("cons at the new top", 396, heap.cons(0, 0, 1));
        heap.part(4, 0, true);
        heap.part(5, 0, false);
        Checks.equal("the first one slid", 0, heap.value(4, 1));
        Checks.equal("the second one slid", 3, heap.value(5, 1));
        Checks.equal("text", "(2199023255552 . 4398046511104)", Checks.written(heap, 0));
    }

    private static void nothingIsGone() {
        CellHeap heap = new CellHeap();
        Checks.equal("empty", 0, heap.collect());
        Checks.equal("it is one all the same", 1, heap.count(1));
        Checks.equal("top", 0, heap.count(0));
        CellHeap life = Scenes.fullOfLife();
        Checks.equal("all live", 0, life.collect());
        Checks.equal("top of life", Scenes.CELLS, life.count(0));
    }
}
