import java.math.BigInteger;
import java.util.function.LongSupplier;

/** Long runs of calls, the same on the heap and on the model: every answer and every state must agree. */
public final class ModelTest {
    private static final int RUNS = 1500;
    private static final int CALLS = 512;
    private static final int WRONG_NUMBERS = 200;

    private static long dice = 20261119;
    private static CellHeap heap;
    private static Model model;
    private static int calls;
    private static String trail;
    private static final int[] ANSWERS = new int[8];

    public static void main(String[] args) {
        for (int run = 0; run < RUNS; run++) {
            heap = new CellHeap();
            model = new Model();
            calls = 0;
            trail = "run " + run;
            int flavour = run % 5;
            while (calls < CALLS - 20) {
                step(flavour);
                look();
            }
            lookAtAll();
        }
        // Runs that never meet an answer would prove nothing about it.
        for (int answer = CellHeap.SIGN; answer <= CellHeap.OUT; answer++) {
            Checks.equal("answer " + answer + " came", 1, ANSWERS[-answer] > 20 ? 1 : 0);
        }
        Checks.finish();
    }

    private static int roll(int sides) {
        dice = dice * 6364136223846793005L + 1442695040888963407L;
        return (int) ((dice >>> 33) % sides);
    }

    private static void agree(String call, LongSupplier due, LongSupplier got) {
        calls++;
        String want = answerOf(due);
        String have = answerOf(got);
        Checks.equal(trail + " call " + calls + " " + call, want, have);
        if (want.startsWith("-") && want.length() == 2) {
            int number = want.charAt(1) - '0';
            ANSWERS[number < 8 ? number : 0]++;
        }
    }

    private static String answerOf(LongSupplier call) {
        try {
            return String.valueOf(call.getAsLong());
        } catch (RuntimeException e) {
            return e.getClass().getSimpleName();
        }
    }

    private static int register() {
        return roll(WRONG_NUMBERS) == 0 ? roll(2) * 9 - 1 : roll(8);
    }

    private static void step(int flavour) {
        int kind = roll(100);
        if (flavour == 4) {
            hoard(kind);
        } else if (kind < 45) {
            reckon(flavour);
        } else if (kind < 60) {
            loadOne(flavour);
        } else if (kind < 75) {
            pairs();
        } else if (kind < 90) {
            readOne(flavour);
        } else if (kind < 93) {
            int to = register();
            agree("nil", () -> { model.nil(to); return 0; }, () -> { heap.nil(to); return 0; });
        } else if (kind < 97) {
            copyOne(register(), register());
        } else {
            agree("collect", model::collect, heap::collect);
        }
    }

    /** Fills the heap with what lives, so that wanted cells are out. */
    private static void hoard(int kind) {
        int own = roll(4);
        if (kind < 65) {
            int first = roll(8);
            agree("cons " + own, () -> model.cons(own, first, own), () -> heap.cons(own, first, own));
        } else if (kind < 75) {
            reckon(roll(4));
        } else if (kind < 85) {
            loadOne(roll(4));
        } else if (kind < 97) {
            pairs();
        } else {
            readOne(roll(4));
        }
    }

    private static void copyOne(int to, int from) {
        agree("copy " + to + " " + from, () -> { model.copy(to, from); return 0; },
                () -> { heap.copy(to, from); return 0; });
    }

    private static void reckon(int flavour) {
        int to = register();
        int a = register();
        int b = register();
        int way = roll(WRONG_NUMBERS) == 0 ? roll(2) * 8 - 1 : flavour == 1 ? roll(3) : roll(7);
        String call = "work " + to + " " + a + " " + b + " " + way;
        agree(call, () -> model.work(to, a, b, way), () -> heap.work(to, a, b, way));
        agree("compare " + a + " " + b, () -> model.compare(a, b), () -> heap.compare(a, b));
    }

    private static void loadOne(int flavour) {
        int to = register();
        long value = longFor(flavour);
        agree("load " + to + " " + value, () -> model.load(to, value), () -> heap.load(to, value));
    }

    private static long longFor(int flavour) {
        long edge = 1L << 29 + roll(35);
        switch (roll(4) + (flavour == 0 ? 0 : 1)) {
            case 0: return roll(20) - 10;
            case 1: return roll(2000) - 1000;
            case 2: return edge + roll(3) - 1;
            case 3: return -edge + roll(3) - 1;
            default: return (long) roll(1 << 30) << 32 + roll(3) ^ -roll(2) ^ roll(1 << 30) * 4L;
        }
    }

    private static void pairs() {
        int to = register();
        int one = register();
        int two = register();
        boolean is = roll(2) == 0;
        int kind = roll(6);
        if (kind < 3) {
            agree("cons " + to, () -> model.cons(to, one, two), () -> heap.cons(to, one, two));
        } else if (kind < 5) {
            agree("part " + to + " " + one, () -> model.part(to, one, is), () -> heap.part(to, one, is));
        } else {
            agree("change " + one + " " + two, () -> model.change(one, is, two), () -> heap.change(one, is, two));
        }
    }

    private static void readOne(int flavour) {
        String text = textFor(flavour);
        if (roll(20) != 0) {
            agree("erase", model::erase, heap::erase);
        }
        for (int i = 0; i < text.length(); i += 20) {
            int[] fours = new int[5];
            for (int k = 0; k < 5; k++) {
                fours[k] = Checks.four(text, i + 4 * k);
            }
            agree("type", () -> model.type(fours),
                    () -> heap.type(fours[0], fours[1], fours[2], fours[3], fours[4]));
        }
        int to = register();
        agree("read " + to + " " + text, () -> model.read(to), () -> heap.read(to));
    }

    private static String textFor(int flavour) {
        StringBuilder text = new StringBuilder(roll(3) == 0 ? "-" : "");
        if (flavour == 2 && roll(4) == 0) {
            text.append(BigInteger.ONE.shiftLeft(32 * (1 + roll(20))).add(BigInteger.valueOf(roll(5) - 2)));
        } else if (flavour >= 2 && roll(2) == 0) {
            text.append(edgeWords(1 + roll(20)));
        } else {
            addDigits(text, roll(flavour == 0 ? 12 : roll(4) == 0 ? 199 : 60));
        }
        if (roll(2) == 0) {
            text.append('/');
            addDigits(text, roll(flavour == 0 ? 6 : 90));
        }
        if (roll(12) == 0) {
            text.setCharAt(roll(text.length() + 1) % Math.max(1, text.length()), (char) (roll(255) + 1));
        }
        return text.toString();
    }

    /** Words at their edges: dividing by such ones goes its rarest ways. */
    private static BigInteger edgeWords(int many) {
        BigInteger number = BigInteger.ZERO;
        for (int i = 0; i < many; i++) {
            long word = new long[] {0, 0, 1, 0x7FFFFFFFL, 0x80000000L, 0xFFFFFFFEL, 0xFFFFFFFFL}[roll(7)];
            number = number.shiftLeft(32).add(BigInteger.valueOf(word));
        }
        return number;
    }

    private static void addDigits(StringBuilder text, int many) {
        text.append(roll(10) == 0 ? 0 : 1 + roll(9));
        for (int i = 0; i < many; i++) {
            text.append((char) ('0' + (roll(6) == 0 ? 0 : roll(10))));
        }
    }

    private static void look() {
        int one = register();
        int two = register();
        int what = roll(5);
        switch (roll(6)) {
            case 0:
                agree("same", () -> model.same(one, two) ? 1 : 0, () -> heap.same(one, two) ? 1 : 0);
                break;
            case 1:
                agree("write " + one, () -> model.write(one), () -> heap.write(one));
                break;
            case 2:
                int k = roll(420) - 10;
                agree("output " + k, () -> model.output(k), () -> heap.output(k));
                break;
            case 3:
                agree("count " + what, () -> model.count(what), () -> heap.count(what));
                break;
            default:
                agree("value " + one + " " + what, () -> model.value(one, what), () -> heap.value(one, what));
        }
    }

    private static void lookAtAll() {
        for (int what = 0; what < 4; what++) {
            int asked = what;
            agree("count " + what, () -> model.count(asked), () -> heap.count(asked));
        }
        int one = roll(8);
        agree("write " + one, () -> model.write(one), () -> heap.write(one));
        StringBuilder due = new StringBuilder();
        StringBuilder got = new StringBuilder();
        for (int k = 0; k < 400 && calls < CALLS; k++) {
            due.append(model.output(k));
            got.append(heap.output(k));
            calls++;
        }
        Checks.equal(trail + " the output of " + one, due.toString(), got.toString());
    }
}
