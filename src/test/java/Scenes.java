import java.math.BigInteger;
import java.util.function.Consumer;
import java.util.function.ToIntFunction;

/** Heaps to begin with, and all that can be seen of a heap: two that look alike in all of it are held to be alike. */
final class Scenes {
    static final int NIL = 0;
    static final int FIXED = 1;
    static final int BIG = 2;
    static final int FRACTION = 3;
    static final int PAIR = 4;

    static final int CELLS = 400;
    static final int[] NO_REGISTERS = {-1, 8, 9, Integer.MIN_VALUE, Integer.MAX_VALUE};
    /** The largest size of 20 times 32 bits. */
    static final BigInteger LARGEST = BigInteger.ONE.shiftLeft(640).subtract(BigInteger.ONE);

    private Scenes() {
    }

    /**
     * Registers: 0 and 1 FIXED, 5 and 0; 2 BIG; 3 FRACTION; 4 PAIR; 5 FRACTION of BIG ones; 6 the largest number;
     * 7 NIL. The line tells -3, the output the pair. The heap is full, but most of it is gone at the next collection.
     */
    static CellHeap fullOfGarbage() {
        CellHeap heap = new CellHeap();
        putValues(heap);
        for (int i = 0; i < 17; i++) {
            heap.work(7, 6, 1, 0);
        }
        heap.load(7, 1L << 31);
        heap.load(7, 1L << 31);
        heap.nil(7);
        putTexts(heap);
        return heap;
    }

    /** As fullOfGarbage, but register 7 has a list of all that fills the heap, so that nothing is gone. */
    static CellHeap fullOfLife() {
        CellHeap heap = new CellHeap();
        putValues(heap);
        fill(heap, 7, 1, CELLS);
        heap.load(1, 0);
        putTexts(heap);
        return heap;
    }

    private static void putValues(CellHeap heap) {
        heap.load(0, 5);
        heap.load(1, 0);
        heap.load(2, 1L << 40);
        Checks.readText(heap, 3, "3/2");
        heap.cons(4, 0, 2);
        Checks.readText(heap, 5, "10000000000/10000000001");
        Checks.readText(heap, 6, LARGEST.toString());
    }

    private static void putTexts(CellHeap heap) {
        heap.erase();
        Checks.typeText(heap, "-12/4");
        heap.write(4);
    }

    /** A list that brings TOP to what is told, ten cells higher at least; a spare register is NIL behind it. */
    static void fill(CellHeap heap, int list, int spare, int top) {
        // What pairs of 3 cells leave over is taken by BIG numbers of 2.
        int missing = top - heap.count(0);
        int numbers = 2 * missing % 3;
        int pairs = (missing - 2 * numbers) / 3;
        heap.nil(list);
        for (int pair = 0; pair < pairs; pair++) {
            heap.nil(spare);
            if (pair < numbers) {
                heap.load(spare, 1L << 31);
            }
            heap.cons(list, spare, list);
        }
        heap.nil(spare);
        Checks.equal("TOP of the filled heap", top, heap.count(0));
    }

    /** What can be seen of it; the look itself changes the heap, so it is the last one. */
    static String seen(CellHeap heap) {
        StringBuilder text = new StringBuilder(Checks.state(heap));
        text.append("; output ");
        for (int k = 0; k < 24; k++) {
            text.append(heap.output(k));
        }
        for (int register = 0; register < 8; register++) {
            text.append("; ");
            addGlimpse(text, heap, register);
        }
        text.append("; line ").append(heap.read(1)).append(' ').append(heap.value(1, 3));
        return text.append(' ').append(heap.erase()).toString();
    }

    /** Of long texts every eighth character alone: an object has 512 calls in all. */
    private static void addGlimpse(StringBuilder text, CellHeap heap, int register) {
        int length = heap.write(register);
        text.append(length).append(' ');
        for (int k = 0; k < length; k += length > 60 ? 8 : 1) {
            text.append(heap.output(k));
        }
    }

    /** The call is refused with this answer, and changes nothing, whether the heap is full of garbage or of life. */
    static void refused(String call, int answer, ToIntFunction<CellHeap> refused) {
        CellHeap garbage = fullOfGarbage();
        Checks.equal(call, answer, refused.applyAsInt(garbage));
        Checks.equal(call + " changes nothing", seen(fullOfGarbage()), seen(garbage));
        CellHeap life = fullOfLife();
        Checks.equal(call + " in a heap full of life", answer, refused.applyAsInt(life));
        Checks.equal(call + " changes nothing of life", seen(fullOfLife()), seen(life));
    }

    /** As refused, but the call throws an IllegalArgumentException. */
    static void illegal(String call, Consumer<CellHeap> illegal) {
        CellHeap garbage = fullOfGarbage();
        Checks.illegalArgument(call, () -> illegal.accept(garbage));
        Checks.equal(call + " changes nothing", seen(fullOfGarbage()), seen(garbage));
        CellHeap life = fullOfLife();
        Checks.illegalArgument(call + " in a heap full of life", () -> illegal.accept(life));
        Checks.equal(call + " changes nothing of life", seen(fullOfLife()), seen(life));
    }

    /** A heap with these numbers in its registers, from 0 on. */
    static CellHeap withNumbers(String... numbers) {
        CellHeap heap = new CellHeap();
        for (int register = 0; register < numbers.length; register++) {
            putNumber(heap, register, numbers[register]);
        }
        return heap;
    }

    /** A fraction too long for the line is made of its two parts, by way of register 7. */
    private static void putNumber(CellHeap heap, int register, String number) {
        if (number.length() <= 200) {
            Checks.equal("read of " + number, 0, Checks.readText(heap, register, number));
            return;
        }
        String[] parts = number.split("/");
        putNumber(heap, register, parts[0]);
        putNumber(heap, 7, parts[1]);
        Checks.equal("both parts of " + number, 0, heap.work(register, register, 7, 3));
        heap.nil(7);
    }
}
