import java.util.function.BiConsumer;

/** Registers, PAIRS, KIND, IllegalArgument, and what is asked: a test for each sentence that names a boundary. */
public final class CallBoundaryTest {
    private static final int[] WRONG_WHATS = {-1, 4, 5, Integer.MIN_VALUE, Integer.MAX_VALUE};

    public static void main(String[] args) {
        Checks.test("1: TOP 0", CallBoundaryTest::newTop);
        Checks.test("1: REGISTERS of NIL", CallBoundaryTest::newRegisters);
        Checks.test("1: an empty LINE", CallBoundaryTest::newLine);
        Checks.test("1: an empty OUTPUT", CallBoundaryTest::newOutput);
        Checks.test("1: A new object is apart from others", CallBoundaryTest::newApart);
        Checks.test("REGISTERS 0 .. 7: 0 and 7 in each place", CallBoundaryTest::firstAndLastRegister);
        Checks.test("2: nil: IllegalArgument", () -> wrongRegisters("nil", (h, r) -> h.nil(r)));
        Checks.test("3: load: IllegalArgument", CallBoundaryTest::wrongLoad);
        Checks.test("4: copy: IllegalArgument", CallBoundaryTest::wrongCopy);
        Checks.test("5: cons: IllegalArgument", CallBoundaryTest::wrongCons);
        Checks.test("6: part: IllegalArgument", CallBoundaryTest::wrongPart);
        Checks.test("7: change: IllegalArgument", CallBoundaryTest::wrongChange);
        Checks.test("8: work: IllegalArgument", CallBoundaryTest::wrongWork);
        Checks.test("9: compare: IllegalArgument", CallBoundaryTest::wrongCompare);
        Checks.test("10: same: IllegalArgument", CallBoundaryTest::wrongSame);
        Checks.test("13: read: IllegalArgument", CallBoundaryTest::wrongRead);
        Checks.test("14: write: IllegalArgument", () -> wrongRegisters("write", (h, r) -> h.write(r)));
        Checks.test("17: value: IllegalArgument", CallBoundaryTest::wrongValue);
        Checks.test("18: IllegalArgument: another what", CallBoundaryTest::wrongCount);
        Checks.test("2: A REGISTER is NIL", CallBoundaryTest::nil);
        Checks.test("4: A REGISTER is what another one is", CallBoundaryTest::copy);
        Checks.test("4: copy of a REGISTER onto itself", CallBoundaryTest::copyOntoItself);
        Checks.test("5: its CELL", CallBoundaryTest::consTellsCell);
        Checks.test("5: A REGISTER that is one of the two, or both", CallBoundaryTest::consOntoItself);
        Checks.test("5: or OUT", CallBoundaryTest::consOut);
        Checks.test("6: the first VALUE (is = true), or the second one", CallBoundaryTest::part);
        Checks.test("6: or KIND", CallBoundaryTest::partKind);
        Checks.test("7: The first VALUE, or the second one, becomes that of a REGISTER", CallBoundaryTest::change);
        Checks.test("7: a PAIR that becomes a part of itself", CallBoundaryTest::changeRound);
        Checks.test("7: or KIND", CallBoundaryTest::changeKind);
        Checks.test("7: a full heap", CallBoundaryTest::changeInFullHeap);
        Checks.test("10: both NIL", CallBoundaryTest::sameNil);
        Checks.test("10: the same FIXED number", CallBoundaryTest::sameFixed);
        Checks.test("10: or the same CELL", CallBoundaryTest::sameCell);
        Checks.test("16: how many CELLS are free then that were not before", CallBoundaryTest::collectTells);
        Checks.test("17: what = 0 its sort", CallBoundaryTest::sorts);
        Checks.test("17: 1 its CELL (NONE of NIL, FIXED)", CallBoundaryTest::cells);
        Checks.test("17: 2 how many CELLS it has (0)", CallBoundaryTest::sizes);
        Checks.test("17: 3 the FIXED number (0 of others)", CallBoundaryTest::fixedNumbers);
        Checks.test("18: 0 TOP", CallBoundaryTest::countTop);
        Checks.test("18: 1 how many COLLECTIONS there were", CallBoundaryTest::countCollections);
        Checks.test("18: 2 OBJECTS below TOP", CallBoundaryTest::countObjects);
        Checks.test("18: 3 those of them that live", CallBoundaryTest::countLiving);
        Checks.test("512 calls", CallBoundaryTest::longUse);
        Checks.finish();
    }

    private static void newTop() {
        CellHeap heap = new CellHeap();
        for (int what = 0; what < 4; what++) {
            Checks.equal("count(" + what + ")", 0, heap.count(what));
        }
        Checks.equal("nothing is gone", 0, heap.collect());
    }

    private static void newRegisters() {
        CellHeap heap = new CellHeap();
        int[] due = {Scenes.NIL, CellHeap.NONE, 0, 0};
        for (int register = 0; register < 8; register++) {
            for (int what = 0; what < 4; what++) {
                Checks.equal("value(" + register + ", " + what + ")", due[what], heap.value(register, what));
            }
        }
    }

    private static void newLine() {
        Checks.equal("read", CellHeap.SIGN, new CellHeap().read(0));
        Checks.equal("erase", 0, new CellHeap().erase());
        Checks.equal("type", 0, new CellHeap().type(0, 0, 0, 0, 0));
    }

    private static void newOutput() {
        CellHeap heap = new CellHeap();
        for (int k = -1; k <= 400; k++) {
            Checks.equal("character " + k, ' ', heap.output(k));
        }
    }

    private static void newApart() {
        String before = Scenes.seen(new CellHeap());
        CellHeap used = Scenes.fullOfLife();
        Checks.equal("a new one", before, Scenes.seen(new CellHeap()));
        CellHeap other = new CellHeap();
        other.load(4, 1L << 40);
        other.erase();
        Checks.equal("the used one", Scenes.seen(Scenes.fullOfLife()), Scenes.seen(used));
    }

    private static void firstAndLastRegister() {
        for (int register = 0; register < 8; register += 7) {
            CellHeap heap = new CellHeap();
            heap.nil(register);
            Checks.equal("load", 0, heap.load(register, 6));
            heap.copy(3, register);
            heap.copy(register, 3);
            Checks.equal("work", 0, heap.work(register, register, register, 2));
            Checks.equal("compare", 0, heap.compare(register, register));
            Checks.equal("same", 1, heap.same(register, register) ? 1 : 0);
            Checks.equal("value", 36, heap.value(register, 3));
            Checks.equal("cons", 0, heap.cons(register, register, register));
            Checks.equal("change", 0, heap.change(register, true, register));
            Checks.equal("part", 0, heap.part(register, register, false));
            Checks.equal("its value", 36, heap.value(register, 3));
            heap.type('8', 0, 0, 0, 0);
            Checks.equal("read", 0, heap.read(register));
            Checks.equal("write", 1, heap.write(register));
            Checks.equal("output", '8', heap.output(0));
        }
    }

    /** Each number that is no register, in a place where one is told. */
    private static void wrongRegisters(String call, BiConsumer<CellHeap, Integer> wrong) {
        for (int register : Scenes.NO_REGISTERS) {
            Scenes.illegal(call + " with register " + register, h -> wrong.accept(h, register));
        }
    }

    /** IllegalArgument goes before OUT: the heap of life has no cell for it, and there is no collection. */
    private static void wrongLoad() {
        wrongRegisters("load", (h, r) -> h.load(r, 3));
        wrongRegisters("load of a BIG one", (h, r) -> h.load(r, 1L << 40));
    }

    private static void wrongCopy() {
        wrongRegisters("copy to", (h, r) -> h.copy(r, 4));
        wrongRegisters("copy from", (h, r) -> h.copy(4, r));
        wrongRegisters("copy both", (h, r) -> h.copy(r, r));
    }

    private static void wrongCons() {
        wrongRegisters("cons to", (h, r) -> h.cons(r, 0, 0));
        wrongRegisters("cons first", (h, r) -> h.cons(0, r, 0));
        wrongRegisters("cons second", (h, r) -> h.cons(0, 0, r));
    }

    private static void wrongPart() {
        wrongRegisters("part to", (h, r) -> h.part(r, 4, true));
        wrongRegisters("part of", (h, r) -> h.part(4, r, false));
        wrongRegisters("part to, before KIND", (h, r) -> h.part(r, 0, true));
    }

    private static void wrongChange() {
        wrongRegisters("change of", (h, r) -> h.change(r, true, 4));
        wrongRegisters("change to", (h, r) -> h.change(4, false, r));
        wrongRegisters("change to, before KIND", (h, r) -> h.change(0, true, r));
    }

    private static void wrongWork() {
        wrongRegisters("work to", (h, r) -> h.work(r, 0, 0, 0));
        wrongRegisters("work a", (h, r) -> h.work(0, r, 0, 0));
        wrongRegisters("work b", (h, r) -> h.work(0, 0, r, 0));
        wrongRegisters("work to, before KIND", (h, r) -> h.work(r, 4, 4, 0));
        wrongRegisters("work a, before KIND", (h, r) -> h.work(0, r, 4, 0));
        wrongRegisters("work b, before KIND", (h, r) -> h.work(0, 4, r, 0));
        wrongRegisters("work to, before ZERO", (h, r) -> h.work(r, 0, 1, 3));
        wrongRegisters("work to, before LARGE", (h, r) -> h.work(r, 6, 6, 2));
        wrongRegisters("work to, before OUT", (h, r) -> h.work(r, 2, 2, 0));
        wrongRegisters("work way, before KIND", (h, r) -> h.work(0, 4, 4, r));
    }

    private static void wrongCompare() {
        wrongRegisters("compare a", (h, r) -> h.compare(r, 0));
        wrongRegisters("compare b", (h, r) -> h.compare(0, r));
        wrongRegisters("compare a, before KIND", (h, r) -> h.compare(r, 4));
        wrongRegisters("compare b, before KIND", (h, r) -> h.compare(4, r));
    }

    private static void wrongSame() {
        wrongRegisters("same a", (h, r) -> h.same(r, 0));
        wrongRegisters("same b", (h, r) -> h.same(0, r));
        wrongRegisters("same both", (h, r) -> h.same(r, r));
    }

    private static void wrongRead() {
        wrongRegisters("read", (h, r) -> h.read(r));
        String[] lines = {"x", "1/0", Scenes.LARGEST + "0", "1/2"};
        for (String line : lines) {
            CellHeap heap = Scenes.fullOfLife();
            heap.erase();
            Checks.typeText(heap, line);
            Checks.illegalArgument("read of " + line, () -> heap.read(8));
            Checks.equal("no collection for " + line, 0, heap.count(1));
            Checks.equal("the line stays", line.length(), heap.erase());
        }
    }

    private static void wrongValue() {
        for (int what = 0; what < 4; what++) {
            int asked = what;
            wrongRegisters("value " + what, (h, r) -> h.value(r, asked));
        }
        for (int what : WRONG_WHATS) {
            Scenes.illegal("value, what " + what, h -> h.value(4, what));
            Scenes.illegal("value of a FIXED one, what " + what, h -> h.value(0, what));
            Scenes.illegal("value of neither, what " + what, h -> h.value(8, what));
        }
    }

    private static void wrongCount() {
        for (int what : WRONG_WHATS) {
            Scenes.illegal("count, what " + what, h -> h.count(what));
        }
    }

    private static void nil() {
        CellHeap heap = Scenes.fullOfGarbage();
        for (int register = 0; register < 8; register++) {
            heap.nil(register);
            Checks.equal("register " + register, Scenes.NIL, heap.value(register, 0));
        }
        Checks.equal("what they had stays until a collection", 400, heap.count(0));
        Checks.equal("none of it lives", 0, heap.count(3));
        CellHeap two = Scenes.withNumbers("4294967296");
        two.copy(1, 0);
        two.nil(0);
        Checks.equal("another one's stays", "4294967296", Checks.written(two, 1));
    }

    private static void copy() {
        CellHeap heap = Scenes.fullOfGarbage();
        for (int from = 0; from < 7; from++) {
            heap.copy(7, from);
            Checks.equal("the same as " + from, 1, heap.same(7, from) ? 1 : 0);
            Checks.equal("its sort", heap.value(from, 0), heap.value(7, 0));
            Checks.equal("its cell", heap.value(from, 1), heap.value(7, 1));
        }
        heap.nil(0);
        heap.copy(7, 0);
        Checks.equal("NIL too", Scenes.NIL, heap.value(7, 0));
        Checks.equal("no cell is wanted", 0, heap.count(1));
    }

    private static void copyOntoItself() {
        CellHeap heap = Scenes.fullOfLife();
        for (int register = 0; register < 8; register++) {
            heap.copy(register, register);
        }
        Checks.equal("nothing changes", Scenes.seen(Scenes.fullOfLife()), Scenes.seen(heap));
    }

    private static void consTellsCell() {
        CellHeap heap = new CellHeap();
        for (int i = 0; i < 133; i++) {
            Checks.equal("pair " + i, 3 * i, heap.cons(0, 7, 0));
        }
        Checks.equal("its register", 396, heap.value(0, 1));
        heap.nil(0);
        Checks.equal("behind a collection", 0, heap.cons(0, 7, 7));
    }

    private static void consOntoItself() {
        CellHeap heap = Scenes.withNumbers("1", "2");
        heap.cons(0, 0, 1);
        Checks.equal("the first", "(1 . 2)", Checks.written(heap, 0));
        heap.cons(1, 0, 1);
        Checks.equal("the second", "((1 . 2) . 2)", Checks.written(heap, 1));
        heap.cons(1, 1, 1);
        Checks.equal("both", "(((1 . 2) . 2) (1 . 2) . 2)", Checks.written(heap, 1));
        heap.cons(2, 2, 2);
        Checks.equal("of NIL", "(())", Checks.written(heap, 2));
    }

    private static void consOut() {
        for (int left = 0; left < 3; left++) {
            CellHeap heap = new CellHeap();
            Scenes.fill(heap, 0, 1, 400 - left);
            Checks.equal("left " + left, CellHeap.OUT, heap.cons(1, 0, 0));
            Checks.equal("the register stays", Scenes.NIL, heap.value(1, 0));
            Checks.equal("one collection", 1, heap.count(1));
            Checks.equal("its own pair lives", CellHeap.OUT, heap.cons(0, 1, 1));
        }
        CellHeap heap = new CellHeap();
        Scenes.fill(heap, 0, 1, 397);
        Checks.equal("left 3", 397, heap.cons(1, 0, 0));
        Checks.equal("no collection", 0, heap.count(1));
    }

    private static void part() {
        CellHeap heap = Scenes.withNumbers("-7", "1/2");
        heap.cons(2, 0, 1);
        Checks.equal("the first", 0, heap.part(3, 2, true));
        Checks.equal("a FIXED one", -7, heap.value(3, 3));
        Checks.equal("the second", 0, heap.part(3, 2, false));
        Checks.equal("an object", 1, heap.same(3, 1) ? 1 : 0);
        heap.cons(4, 7, 2);
        Checks.equal("NIL", 0, heap.part(3, 4, true));
        Checks.equal("is NIL", Scenes.NIL, heap.value(3, 0));
        Checks.equal("into its own register", 0, heap.part(4, 4, false));
        Checks.equal("is the pair", 1, heap.same(4, 2) ? 1 : 0);
        CellHeap full = Scenes.fullOfLife();
        Checks.equal("no cell is wanted", 0, full.part(0, 4, false));
        Checks.equal("nor a collection", 0, full.count(1));
    }

    private static void partKind() {
        for (int register = 0; register < 7; register++) {
            if (register != 4) {
                int asked = register;
                Scenes.refused("first of " + register, CellHeap.KIND, h -> h.part(7, asked, true));
                Scenes.refused("second of " + register, CellHeap.KIND, h -> h.part(4, asked, false));
            }
        }
        CellHeap heap = Scenes.withNumbers("5");
        Checks.equal("first of NIL", CellHeap.KIND, heap.part(0, 7, true));
        Checks.equal("second of NIL", CellHeap.KIND, heap.part(0, 7, false));
        Checks.equal("nothing changes", 5, heap.value(0, 3));
    }

    private static void change() {
        CellHeap heap = Scenes.withNumbers("1", "2", "4294967296", "1/2");
        heap.cons(4, 0, 1);
        heap.copy(5, 4);
        Checks.equal("the first", 0, heap.change(4, true, 2));
        Checks.equal("text", "(4294967296 . 2)", Checks.written(heap, 5));
        Checks.equal("the second", 0, heap.change(4, false, 3));
        Checks.equal("text then", "(4294967296 . 1/2)", Checks.written(heap, 5));
        Checks.equal("to NIL", 0, heap.change(5, false, 7));
        Checks.equal("text with NIL", "(4294967296)", Checks.written(heap, 4));
        Checks.equal("the register that it is of stays", "4294967296", Checks.written(heap, 2));
    }

    private static void changeRound() {
        CellHeap heap = new CellHeap();
        heap.cons(0, 7, 7);
        Checks.equal("the first", 0, heap.change(0, true, 0));
        Checks.equal("the second", 0, heap.change(0, false, 0));
        heap.part(1, 0, true);
        heap.part(2, 0, false);
        Checks.equal("is itself", 1, heap.same(1, 0) ? 1 : 0);
        Checks.equal("is itself too", 1, heap.same(2, 0) ? 1 : 0);
        heap.collect();
        Checks.equal("behind a collection", 1, heap.same(1, 0) ? 1 : 0);
        Checks.equal("one object", 1, heap.count(3));
        Checks.equal("is written", CellHeap.FULL, heap.write(0));
    }

    private static void changeKind() {
        for (int register = 0; register < 7; register++) {
            if (register != 4) {
                int asked = register;
                Scenes.refused("first of " + register, CellHeap.KIND, h -> h.change(asked, true, 4));
                Scenes.refused("second of " + register, CellHeap.KIND, h -> h.change(asked, false, 4));
            }
        }
        CellHeap heap = new CellHeap();
        Checks.equal("first of NIL", CellHeap.KIND, heap.change(0, true, 0));
        Checks.equal("second of NIL", CellHeap.KIND, heap.change(7, false, 0));
        Checks.equal("is still NIL", Scenes.NIL, heap.value(7, 0));
    }

    private static void changeInFullHeap() {
        CellHeap heap = Scenes.fullOfLife();
        Checks.equal("no cell is wanted", 0, heap.change(4, true, 6));
        Checks.equal("nor a collection", 0, heap.count(1));
        Checks.equal("objects as before", heap.count(2), heap.count(3));
        heap.part(0, 4, true);
        Checks.equal("it is changed", 1, heap.same(0, 6) ? 1 : 0);
    }

    private static void isSame(String what, int due, CellHeap heap, int a, int b) {
        Checks.equal(what, due, heap.same(a, b) ? 1 : 0);
        Checks.equal(what + ", turned", due, heap.same(b, a) ? 1 : 0);
    }

    private static void sameNil() {
        CellHeap heap = Scenes.withNumbers("0", "4294967296");
        isSame("both NIL", 1, heap, 6, 7);
        isSame("NIL with itself", 1, heap, 7, 7);
        isSame("NIL and 0", 0, heap, 7, 0);
        isSame("NIL and the object of CELL 0", 0, heap, 7, 1);
        heap.load(2, -1);
        isSame("NIL and -1", 0, heap, 7, 2);
    }

    private static void sameFixed() {
        CellHeap heap = new CellHeap();
        long[] numbers = {0, 1, -1, (1 << 30) - 1, -(1 << 30)};
        for (long number : numbers) {
            heap.load(0, number);
            heap.load(1, number);
            isSame("twice " + number, 1, heap, 0, 1);
            heap.load(1, number == 0 ? 7 : -number / 2);
            isSame(number + " and another", 0, heap, 0, 1);
        }
        heap.load(0, 1);
        heap.load(1, -1);
        isSame("1 and -1", 0, heap, 0, 1);
        heap.load(0, (1 << 30) - 1);
        heap.load(1, -1);
        isSame("the highest one and -1", 0, heap, 0, 1);
        heap.load(1, -(1 << 30));
        isSame("the highest and the lowest", 0, heap, 0, 1);
    }

    private static void sameCell() {
        CellHeap heap = Scenes.withNumbers("4294967296", "4294967296", "1/2", "1/2", "0");
        isSame("a BIG one with itself", 1, heap, 0, 0);
        isSame("BIG ones as large", 0, heap, 0, 1);
        isSame("FRACTIONS as large", 0, heap, 2, 3);
        isSame("a BIG one at CELL 0 and the number 0", 0, heap, 0, 4);
        heap.cons(5, 0, 2);
        heap.cons(6, 0, 2);
        isSame("PAIRS of the same", 0, heap, 5, 6);
        heap.load(4, heap.value(5, 1));
        isSame("a PAIR and the number of its CELL", 0, heap, 5, 4);
        heap.part(7, 6, true);
        isSame("a part and what it is of", 1, heap, 7, 0);
        heap.part(7, 5, false);
        isSame("a shared FRACTION", 1, heap, 7, 2);
        heap.copy(7, 5);
        isSame("a copied PAIR", 1, heap, 7, 5);
    }

    private static void collectTells() {
        CellHeap empty = new CellHeap();
        Checks.equal("empty", 0, empty.collect());
        CellHeap life = Scenes.fullOfLife();
        Checks.equal("all live", 0, life.collect());
        CellHeap garbage = Scenes.fullOfGarbage();
        Checks.equal("17 large ones and two of 2 cells", 17 * 21 + 2 * 2, garbage.collect());
        Checks.equal("at once again", 0, garbage.collect());
        for (int register = 0; register < 8; register++) {
            garbage.nil(register);
        }
        Checks.equal("all the rest", 39, garbage.collect());
        Scenes.fill(empty, 0, 1, 400);
        empty.nil(0);
        Checks.equal("all 400", 400, empty.collect());
    }

    private static void asked(int what, int... due) {
        CellHeap heap = Scenes.fullOfGarbage();
        for (int register = 0; register < 8; register++) {
            Checks.equal("register " + register, due[register], heap.value(register, what));
        }
        Checks.equal("value changes nothing", Scenes.seen(Scenes.fullOfGarbage()), Scenes.seen(heap));
    }

    private static void sorts() {
        asked(0, Scenes.FIXED, Scenes.FIXED, Scenes.BIG, Scenes.FRACTION, Scenes.PAIR, Scenes.FRACTION, Scenes.BIG,
                Scenes.NIL);
    }

    private static void cells() {
        asked(1, CellHeap.NONE, CellHeap.NONE, 0, 3, 6, 15, 18, CellHeap.NONE);
    }

    private static void sizes() {
        asked(2, 0, 0, 3, 3, 3, 3, 21, 0);
    }

    private static void fixedNumbers() {
        asked(3, 5, 0, 0, 0, 0, 0, 0, 0);
        CellHeap heap = new CellHeap();
        int[] numbers = {-1, 1, 0, (1 << 30) - 1, -(1 << 30), -(1 << 30) + 1};
        for (int number : numbers) {
            heap.load(0, number);
            Checks.equal("the number", number, heap.value(0, 3));
        }
    }

    private static void countTop() {
        CellHeap heap = new CellHeap();
        Checks.equal("none", 0, heap.count(0));
        heap.load(0, 1L << 30);
        Checks.equal("2", 2, heap.count(0));
        heap.cons(1, 0, 0);
        Checks.equal("5", 5, heap.count(0));
        heap.nil(1);
        Checks.equal("garbage is below TOP", 5, heap.count(0));
        heap.collect();
        Checks.equal("until a collection", 2, heap.count(0));
        Checks.equal("full", 400, Scenes.fullOfLife().count(0));
    }

    private static void countCollections() {
        CellHeap heap = new CellHeap();
        Checks.equal("none", 0, heap.count(1));
        heap.collect();
        Checks.equal("one that is asked for", 1, heap.count(1));
        Scenes.fill(heap, 0, 1, 399);
        Checks.equal("none that is not needed", 1, heap.count(1));
        heap.cons(1, 0, 0);
        Checks.equal("one that is wanted, and OUT", 2, heap.count(1));
        heap.part(0, 0, false);
        heap.cons(1, 0, 0);
        Checks.equal("one that is wanted", 3, heap.count(1));
        heap.count(3);
        heap.write(0);
        Checks.equal("none by counting, none by writing", 3, heap.count(1));
    }

    private static void countObjects() {
        CellHeap heap = Scenes.withNumbers("5", "4294967296", "1/2", "4294967296/4294967297");
        Checks.equal("no FIXED one, parts too", 5, heap.count(2));
        heap.cons(4, 0, 1);
        Checks.equal("a PAIR, not its parts once more", 6, heap.count(2));
        heap.nil(3);
        Checks.equal("garbage too", 6, heap.count(2));
        heap.collect();
        Checks.equal("what is left", 3, heap.count(2));
        CellHeap full = new CellHeap();
        for (int i = 0; i < 200; i++) {
            full.load(0, 1L << 31);
        }
        Checks.equal("the most that there can be", 200, full.count(2));
        Checks.equal("one lives", 1, full.count(3));
    }

    private static void countLiving() {
        CellHeap heap = Scenes.withNumbers("5", "4294967296", "1/2", "4294967296/4294967297");
        heap.cons(4, 1, 2);
        heap.cons(4, 4, 4);
        Checks.equal("all, each of them once", 7, heap.count(3));
        heap.nil(1);
        heap.nil(2);
        Checks.equal("what a PAIR leads to", 7, heap.count(3));
        heap.change(4, true, 0);
        Checks.equal("shared parts", 7, heap.count(3));
        heap.change(4, false, 4);
        Checks.equal("a PAIR that runs round", 4, heap.count(3));
        heap.nil(4);
        Checks.equal("which no REGISTER has", 3, heap.count(3));
        heap.nil(3);
        Checks.equal("none", 0, heap.count(3));
        Checks.equal("counting takes nothing away", 7, heap.count(2));
        Checks.equal("nor is it a collection", 0, heap.count(1));
    }

    /** Up to its 512th call an object does what the document says. */
    private static void longUse() {
        CellHeap heap = new CellHeap();
        heap.load(0, 1L << 40);
        int due = 3;
        for (int call = 2; call <= 509; call++) {
            Checks.equal("call " + call, due, heap.cons(1, 0, 0));
            // The last pair still is the register's own when the next one wants its cells.
            due = due == 396 ? 6 : due + 3;
        }
        Checks.equal("call 510", 3, heap.count(1));
        Checks.equal("call 511", 2, heap.count(3));
        Checks.equal("call 512", "(1099511627776 . 1099511627776)".length(), heap.write(1));
    }
}
