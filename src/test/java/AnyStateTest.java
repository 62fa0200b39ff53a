import java.lang.reflect.Field;
import java.util.Random;

/**
 * No call may throw in any state (LANGUAGE.md, rule 7): not even where a number that only grows has come to its end.
 * No run of calls gets there in a day, so the numbers are set by their names.
 */
public final class AnyStateTest extends Bench {
    private static final int[] WILD = {LOW, -100, -2, -1, 0, 1, 2, 3, 4, 5, 6, 7, 8, 9, 10, 40, 42, 48, 82, 99, 126, 200, 9999,
        10000, HIGH};
    private static final String[] OF_BUS = {"now", "places", "sentAway", "beaten", "ended", "answers"};

    private static Object inside(Object of, String name) throws ReflectiveOperationException {
        Field field = of.getClass().getDeclaredField(name);
        field.setAccessible(true);
        return field.get(of);
    }

    private static void set(Object of, String name, int number) throws ReflectiveOperationException {
        Field field = of.getClass().getDeclaredField(name);
        field.setAccessible(true);
        field.setInt(of, number);
    }

    /** The order's own number goes past its end: what the last ones were is told as ever. */
    private static void theOrderGoesOn() throws ReflectiveOperationException {
        for (int left = 0; left < 20; left++) {
            SplitWatch x = made(2, 2, 1, 1);
            set(inside(inside(x, "bus"), "log"), "total", HIGH - left);
            StringBuilder all = new StringBuilder();
            for (int i = 0; i < 24; i++) {
                int l = i % 8;
                fetch(x, i % 2, l);
                all.append(i % 2).append('R').append(l).append(' ');
            }
            String last = all.substring(all.length() - 64).trim();
            due(11, "the order, " + left + " ahead of the end", orderOf(x), last);
            due(12, "all of it", x.told(42, 42, 42), 16);
            due(12, "of core 1", x.told('1', 42, 42), 8);
        }
    }

    private static int pick(Random r) {
        return r.nextInt(4) == 0 ? WILD[r.nextInt(WILD.length)] : r.nextInt(9) - 1;
    }

    private static void anyCall(SplitWatch x, Random r) {
        int a = pick(r);
        int b = pick(r);
        int c = pick(r);
        switch (r.nextInt(24)) {
            case 0: x.write(a); break;
            case 1: x.play(); break;
            case 2: x.order(a); break;
            case 3: x.told(a, b, c); break;
            case 4: x.word(a, b, c); break;
            case 5: x.cached(a, b, c); break;
            case 6: x.buffered(a, b, c); break;
            case 7: x.memory(a); break;
            case 8: x.truth(a); break;
            case 9: x.core(a, b); break;
            case 10: x.waiting(a, b); break;
            case 11: x.open(a, b); break;
            case 12: x.day(a, b); break;
            case 13: x.count(a); break;
            case 14: x.fault(); break;
            case 15: x.drop(a, b); break;
            case 16: x.read(a, b); break;
            case 17: x.store(a, b, c); break;
            case 18: x.turn(a); break;
            case 19: x.order(r.nextInt(64)); break;
            case 20: x.drop(r.nextInt(4), r.nextInt(8)); break;
            case 21: x.read(r.nextInt(4), r.nextInt(8)); break;
            case 22: x.store(r.nextInt(4), r.nextInt(8), r.nextInt(10000)); break;
            default: x.turn(1); break;
        }
    }

    /** All that only grows is at its end, somewhere in a run of any calls with any numbers. */
    private static void nothingThrows() throws ReflectiveOperationException {
        for (int seed = 0; seed < 1500; seed++) {
            Random r = new Random(seed);
            SplitWatch x = made(2 + r.nextInt(3), 1 + r.nextInt(4), 1 + r.nextInt(9), 1 + r.nextInt(9));
            type(x, "store 0 1 5;read 1 1;turn 9;drop 0 1;");
            int at = r.nextInt(100);
            for (int i = 0; i < 400; i++) {
                if (i == at) {
                    Object bus = inside(x, "bus");
                    for (String name : OF_BUS) {
                        set(bus, name, HIGH - r.nextInt(40));
                    }
                    set(inside(bus, "log"), "total", HIGH - r.nextInt(40));
                    for (Object core : (Object[]) inside(bus, "cores")) {
                        set(inside(core, "cache"), "uses", HIGH - r.nextInt(40));
                    }
                }
                try {
                    anyCall(x, r);
                } catch (RuntimeException thrown) {
                    due(6, "seed " + seed + ", call " + i, thrown.toString(), "an answer");
                    return;
                }
            }
        }
    }

    public static void main(String[] args) throws ReflectiveOperationException {
        nothingThrows();
        theOrderGoesOn();
        finish();
    }
}
