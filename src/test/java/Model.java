import java.math.BigInteger;
import java.util.ArrayList;
import java.util.Collections;
import java.util.IdentityHashMap;
import java.util.List;
import java.util.Set;

/**
 * The document once more, written in quite another way: objects that refer to one another and stand in a list,
 * in the order of their cells, and Java's own large numbers. NIL is null, a FIXED number a Long.
 */
final class Model {
    private static final class Thing {
        int sort;
        BigInteger number;
        Object first;
        Object second;

        int size() {
            return sort == 2 ? 1 + (number.abs().bitLength() + 31) / 32 : 3;
        }
    }

    private final Object[] registers = new Object[8];
    private List<Thing> things = new ArrayList<>();
    private int collections = 0;
    private final StringBuilder line = new StringBuilder();
    private String output = "";

    void nil(int to) {
        check(to, 7);
        registers[to] = null;
    }

    int load(int to, long value) {
        check(to, 7);
        return keep(to, BigInteger.valueOf(value), BigInteger.ONE);
    }

    void copy(int to, int from) {
        check(to, 7);
        check(from, 7);
        registers[to] = registers[from];
    }

    int cons(int to, int first, int second) {
        check(to, 7);
        check(first, 7);
        check(second, 7);
        if (!room(3)) {
            return CellHeap.OUT;
        }
        int cell = top();
        registers[to] = triple(4, registers[first], registers[second]);
        return cell;
    }

    int part(int to, int pair, boolean is) {
        check(to, 7);
        check(pair, 7);
        if (sort(registers[pair]) != 4) {
            return CellHeap.KIND;
        }
        Thing from = (Thing) registers[pair];
        registers[to] = is ? from.first : from.second;
        return 0;
    }

    int change(int pair, boolean is, int from) {
        check(pair, 7);
        check(from, 7);
        if (sort(registers[pair]) != 4) {
            return CellHeap.KIND;
        }
        Thing changed = (Thing) registers[pair];
        if (is) {
            changed.first = registers[from];
        } else {
            changed.second = registers[from];
        }
        return 0;
    }

    int work(int to, int a, int b, int way) {
        check(to, 7);
        check(a, 7);
        check(b, 7);
        check(way, 6);
        int most = way > 3 ? 2 : 3;
        int sortA = sort(registers[a]);
        int sortB = sort(registers[b]);
        if (sortA < 1 || sortA > most || sortB < 1 || sortB > most) {
            return CellHeap.KIND;
        }
        BigInteger up = upper(registers[a]);
        BigInteger low = lower(registers[a]);
        BigInteger up2 = upper(registers[b]);
        BigInteger low2 = lower(registers[b]);
        if (way >= 3 && way <= 5 && up2.signum() == 0) {
            return CellHeap.ZERO;
        }
        switch (way) {
            case 0: return keep(to, up.multiply(low2).add(up2.multiply(low)), low.multiply(low2));
            case 1: return keep(to, up.multiply(low2).subtract(up2.multiply(low)), low.multiply(low2));
            case 2: return keep(to, up.multiply(up2), low.multiply(low2));
            case 3: return keep(to, up.multiply(low2), low.multiply(up2));
            case 4: return keep(to, up.divide(up2), BigInteger.ONE);
            case 5: return keep(to, up.remainder(up2), BigInteger.ONE);
            default: return keep(to, up.gcd(up2), BigInteger.ONE);
        }
    }

    int compare(int a, int b) {
        check(a, 7);
        check(b, 7);
        int sortA = sort(registers[a]);
        int sortB = sort(registers[b]);
        if (sortA < 1 || sortA > 3 || sortB < 1 || sortB > 3) {
            return CellHeap.KIND;
        }
        BigInteger one = upper(registers[a]).multiply(lower(registers[b]));
        return one.compareTo(upper(registers[b]).multiply(lower(registers[a])));
    }

    boolean same(int a, int b) {
        check(a, 7);
        check(b, 7);
        Object one = registers[a];
        Object two = registers[b];
        return one == two || one instanceof Long && one.equals(two);
    }

    int type(int... fours) {
        StringBuilder more = new StringBuilder();
        for (int four : fours) {
            for (int shift = 24; shift >= 0; shift -= 8) {
                int character = four >> shift & 0xFF;
                if (character != 0) {
                    more.append((char) character);
                }
            }
        }
        if (line.length() + more.length() > 200) {
            throw new IllegalStateException();
        }
        line.append(more);
        return line.length();
    }

    int erase() {
        int had = line.length();
        line.setLength(0);
        return had;
    }

    int read(int to) {
        check(to, 7);
        String told = line.toString();
        if (!told.matches("-?[0-9]+(/[0-9]+)?")) {
            return CellHeap.SIGN;
        }
        String[] both = told.split("/");
        BigInteger up = new BigInteger(both[0]);
        BigInteger low = both.length == 2 ? new BigInteger(both[1]) : BigInteger.ONE;
        if (low.signum() == 0) {
            return CellHeap.ZERO;
        }
        if (large(up) || large(low)) {
            return CellHeap.LARGE;
        }
        return keep(to, up, low);
    }

    int write(int from) {
        check(from, 7);
        StringBuilder text = new StringBuilder();
        writeInto(text, registers[from]);
        output = text.length() > 400 ? "" : text.toString();
        return text.length() > 400 ? CellHeap.FULL : output.length();
    }

    char output(int k) {
        return k < 0 || k >= output.length() ? ' ' : output.charAt(k);
    }

    int collect() {
        int before = top();
        gather();
        return before - top();
    }

    int value(int register, int what) {
        check(register, 7);
        check(what, 3);
        Object asked = registers[register];
        int sort = sort(asked);
        switch (what) {
            case 0: return sort;
            case 1: return sort < 2 ? CellHeap.NONE : cell((Thing) asked);
            case 2: return sort < 2 ? 0 : ((Thing) asked).size();
            default: return sort == 1 ? ((Long) asked).intValue() : 0;
        }
    }

    int count(int what) {
        check(what, 3);
        switch (what) {
            case 0: return top();
            case 1: return collections;
            case 2: return things.size();
            default: return living().size();
        }
    }

    private static void check(int number, int most) {
        if (number < 0 || number > most) {
            throw new IllegalArgumentException();
        }
    }

    private static int sort(Object value) {
        return value == null ? 0 : value instanceof Long ? 1 : ((Thing) value).sort;
    }

    private static BigInteger whole(Object value) {
        return value instanceof Long ? BigInteger.valueOf((Long) value) : ((Thing) value).number;
    }

    private static BigInteger upper(Object value) {
        return sort(value) == 3 ? whole(((Thing) value).first) : whole(value);
    }

    private static BigInteger lower(Object value) {
        return sort(value) == 3 ? whole(((Thing) value).second) : BigInteger.ONE;
    }

    private static boolean large(BigInteger number) {
        return number.abs().bitLength() > 640;
    }

    private static boolean fixed(BigInteger number) {
        return number.bitLength() <= 30;
    }

    private static int cells(BigInteger number) {
        return fixed(number) ? 0 : 1 + (number.abs().bitLength() + 31) / 32;
    }

    private int keep(int to, BigInteger up, BigInteger low) {
        BigInteger divisor = up.gcd(low).multiply(BigInteger.valueOf(low.signum()));
        BigInteger upper = up.divide(divisor);
        BigInteger lower = low.divide(divisor);
        if (large(upper) || large(lower)) {
            return CellHeap.LARGE;
        }
        boolean whole = lower.equals(BigInteger.ONE);
        if (!room(whole ? cells(upper) : cells(upper) + cells(lower) + 3)) {
            return CellHeap.OUT;
        }
        Object first = made(upper);
        registers[to] = whole ? first : triple(3, first, made(lower));
        return 0;
    }

    private Object made(BigInteger number) {
        if (fixed(number)) {
            return number.longValue();
        }
        Thing thing = new Thing();
        thing.sort = 2;
        thing.number = number;
        things.add(thing);
        return thing;
    }

    private Thing triple(int sort, Object first, Object second) {
        Thing thing = new Thing();
        thing.sort = sort;
        thing.first = first;
        thing.second = second;
        things.add(thing);
        return thing;
    }

    private int top() {
        int top = 0;
        for (Thing thing : things) {
            top += thing.size();
        }
        return top;
    }

    private int cell(Thing asked) {
        int cell = 0;
        for (Thing thing : things) {
            if (thing == asked) {
                return cell;
            }
            cell += thing.size();
        }
        throw new AssertionError("a value tells an object that is gone");
    }

    private boolean room(int wanted) {
        if (400 - top() < wanted) {
            gather();
        }
        return 400 - top() >= wanted;
    }

    private void gather() {
        Set<Thing> living = living();
        List<Thing> left = new ArrayList<>();
        for (Thing thing : things) {
            if (living.contains(thing)) {
                left.add(thing);
            }
        }
        things = left;
        collections++;
    }

    private Set<Thing> living() {
        Set<Thing> living = Collections.newSetFromMap(new IdentityHashMap<>());
        List<Object> open = new ArrayList<>(java.util.Arrays.asList(registers));
        while (!open.isEmpty()) {
            Object value = open.remove(open.size() - 1);
            if (value instanceof Thing && living.add((Thing) value)) {
                open.add(((Thing) value).first);
                open.add(((Thing) value).second);
            }
        }
        return living;
    }

    private static void writeInto(StringBuilder text, Object value) {
        if (text.length() > 400) {
            return;
        }
        int sort = sort(value);
        if (sort < 4) {
            text.append(sort == 0 ? "()" : sort == 3 ? upper(value) + "/" + lower(value) : whole(value).toString());
            return;
        }
        text.append('(');
        writeInto(text, ((Thing) value).first);
        Object rest = ((Thing) value).second;
        while (sort(rest) == 4 && text.length() <= 400) {
            text.append(' ');
            writeInto(text, ((Thing) rest).first);
            rest = ((Thing) rest).second;
        }
        if (rest != null) {
            text.append(" . ");
            writeInto(text, rest);
        }
        text.append(')');
    }
}
