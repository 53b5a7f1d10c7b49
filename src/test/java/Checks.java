/** What the tests share: counting of checks, and helpers that type, read and look at a heap. */
final class Checks {
    private static int passed = 0;
    private static int failed = 0;
    private static String sentence = "";

    private Checks() {
    }

    /** One sentence of the document and its test; a test that is thrown out of is a wrong one. */
    static void test(String quoted, Runnable test) {
        sentence = "[" + quoted + "] ";
        equal("what the test throws", "nothing", thrownBy(test));
        sentence = "";
    }

    static void equal(String what, long want, long got) {
        note(want == got, what, String.valueOf(want), String.valueOf(got));
    }

    static void equal(String what, String want, String got) {
        note(want.equals(got), what, want, got);
    }

    private static void note(boolean good, String what, String want, String got) {
        if (good) {
            passed++;
        } else {
            failed++;
            System.out.println("WRONG " + sentence + what + ": due is " + want + ", answered " + got);
        }
    }

    static void illegalArgument(String what, Runnable call) {
        equal(what, "IllegalArgumentException", thrownBy(call));
    }

    static void illegalState(String what, Runnable call) {
        equal(what, "IllegalStateException", thrownBy(call));
    }

    private static String thrownBy(Runnable call) {
        try {
            call.run();
            return "nothing";
        } catch (RuntimeException e) {
            return e.getClass().getSimpleName();
        }
    }

    /** Prints the plain closing line of a test and ends the program. */
    static void finish() {
        System.out.println(passed + " checks passed, " + failed + " checks failed");
        System.exit(failed == 0 ? 0 : 1);
    }

    /** Four characters of the text as type takes them; beyond its end there is byte 0, which is none. */
    static int four(String text, int begin) {
        int number = 0;
        for (int i = begin; i < begin + 4; i++) {
            number = number << 8 | (i < text.length() ? text.charAt(i) : 0);
        }
        return number;
    }

    static int typeText(CellHeap heap, String text) {
        int has = heap.type(0, 0, 0, 0, 0);
        for (int i = 0; i < text.length(); i += 20) {
            has = heap.type(four(text, i), four(text, i + 4), four(text, i + 8), four(text, i + 12),
                    four(text, i + 16));
        }
        return has;
    }

    /** The line is the text alone, and is read. */
    static int readText(CellHeap heap, int to, String text) {
        heap.erase();
        typeText(heap, text);
        return heap.read(to);
    }

    /** What write puts into the output; FULL and the like as a text of their number. */
    static String written(CellHeap heap, int register) {
        int length = heap.write(register);
        if (length < 0) {
            return "answer " + length;
        }
        StringBuilder text = new StringBuilder();
        for (int k = 0; k < length; k++) {
            text.append(heap.output(k));
        }
        return text.toString();
    }

    /** All that can be seen of the registers and the heap, but for the output. */
    static String state(CellHeap heap) {
        StringBuilder text = new StringBuilder();
        for (int register = 0; register < 8; register++) {
            text.append(heap.value(register, 0)).append(' ').append(heap.value(register, 1)).append(' ');
            text.append(heap.value(register, 2)).append(' ').append(heap.value(register, 3)).append("; ");
        }
        text.append(heap.count(0)).append(' ').append(heap.count(1)).append(' ').append(heap.count(2));
        return text.append(' ').append(heap.count(3)).toString();
    }
}
