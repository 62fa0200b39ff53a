import java.math.BigInteger;
import java.util.function.Consumer;
import java.util.function.ToIntFunction;

/** The edges of the calls for cores and of those that look: ranges of numbers, refusals, and what they leave as it was. */
public final class CallEdgeTest extends Bench {
    /** A call by one of its numbers, the others being such as are told. */
    private interface Call {
        int with(SplitWatch x, int number);
    }

    private static void refusedBy(String call, Consumer<SplitWatch> before, Call asked, int... numbers) {
        for (int n : numbers) {
            refused(call + " " + n, before, x -> asked.with(x, n), BAD);
        }
    }

    /** A number of a call, told from low to high. */
    private static void range(String call, int low, int high, Call asked) {
        taken(call + " " + low, asked.with(made(Bench::busy), low));
        taken(call + " " + high, asked.with(made(Bench::busy), high));
        refusedBy(call, Bench::busy, asked, low - 1, high + 1, LOW, HIGH);
    }

    /** The i-th of several, or how many by -1: no number is too high, it is only none of them. */
    private static void index(String call, Call asked) {
        taken(call + " -1", asked.with(made(Bench::busy), -1));
        due(call + " HIGH", asked.with(made(Bench::busy), HIGH), NONE);
        refusedBy(call, Bench::busy, asked, -2, -3, LOW);
    }

    private static void ranges() {
        sentence("BAD: a number is none that is told");
        range("begin, c", 2, 4, (x, n) -> x.begin(n, 2, 2, 5));
        range("begin, k", 1, 4, (x, n) -> x.begin(3, n, 2, 5));
        range("begin, fast", 1, 9, (x, n) -> x.begin(3, 2, n, 5));
        range("begin, slow", 1, 9, (x, n) -> x.begin(3, 2, 2, n));
        range("store, v", 0, 9999, (x, n) -> x.store(0, 1, n));
        range("turn, n", 1, 99, (x, n) -> x.turn(n));
        range("write, letter", 32, 126, (x, n) -> x.write(n));
        range("told, core", 32, 126, (x, n) -> x.told(n, 42, 42));
        range("told, kind", 32, 126, (x, n) -> x.told(42, n, 42));
        range("told, line", 32, 126, (x, n) -> x.told(42, 42, n));
        range("cached, what", 0, 2, (x, n) -> x.cached(0, 1, n));
        range("buffered, what", 0, 1, (x, n) -> x.buffered(0, 0, n));
        range("core, what", 0, 5, (x, n) -> x.core(0, n));
        range("waiting, what", 0, 4, (x, n) -> x.waiting(0, n));
        range("open, what", 0, 4, (x, n) -> x.open(0, n));
        range("day, z", 0, 9999, (x, n) -> x.day(n, 1));
        range("day, n", 1, 40, (x, n) -> x.day(0, n));
        range("count, what", 0, 10, (x, n) -> x.count(n));
        index("order, i", (x, n) -> x.order(n));
        index("word, i", (x, n) -> x.word(0, 1, n));
        index("buffered, i", (x, n) -> x.buffered(0, n, 0));
        index("waiting, i", (x, n) -> x.waiting(n, 0));
        index("open, i", (x, n) -> x.open(n, 0));
    }

    private static void lines() {
        sentence("LINES 0 to 7");
        range("read, l", 0, 7, (x, n) -> x.read(0, n));
        range("store, l", 0, 7, (x, n) -> x.store(0, n, 1));
        range("drop, l", 0, 7, (x, n) -> x.drop(0, n));
        range("word, l", 0, 7, (x, n) -> x.word(0, n, 0));
        range("cached, l", 0, 7, (x, n) -> x.cached(0, n, 0));
        range("memory, l", 0, 7, (x, n) -> x.memory(n));
        range("truth, l", 0, 7, (x, n) -> x.truth(n));
    }

    private static void coresOf(String call, Call asked) {
        range(call + " of 3, c", 0, 2, asked);
        for (int c = 2; c <= 4; c++) {
            // All 4 cores were in use before: what a smaller C leaves of them is told by none.
            int cores = c;
            Consumer<SplitWatch> before = x -> {
                x.begin(4, 2, 1, 1);
                x.store(3, 0, 5);
                x.store(2, 1, 6);
                x.turn(9);
                x.drop(3, 0);
                x.begin(cores, 2, 1, 1);
            };
            taken(call + " of " + c + ", the first", asked.with(made(before), 0));
            taken(call + " of " + c + ", the last", asked.with(made(before), c - 1));
            refusedBy(call + " of " + c, before, asked, -1, c, 4, LOW, HIGH);
        }
    }

    private static void cores() {
        sentence("There are CORES 0 to C less 1 (C 2 to 4)");
        coresOf("read", (x, n) -> x.read(n, 0));
        coresOf("store", (x, n) -> x.store(n, 0, 1));
        coresOf("drop", (x, n) -> x.drop(n, 0));
        coresOf("word", (x, n) -> x.word(n, 0, 0));
        coresOf("cached", (x, n) -> x.cached(n, 0, 0));
        coresOf("buffered", (x, n) -> x.buffered(n, -1, 0));
        coresOf("core", (x, n) -> x.core(n, 0));
    }

    private static void newObject() {
        sentence("As by begin(3, 2, 1, 3); THE TEXT is empty");
        SplitWatch begun = new SplitWatch();
        due("begin", begun.begin(3, 2, 1, 3), 3);
        due("all", stateOf(new SplitWatch()), stateOf(begun));
        due("counts", countsOf(new SplitWatch()), "3 2 1 3 0 0 0 0 0 0 0");
        due("core 2", coreOf(new SplitWatch(), 2), "-4 0 -4 -4 -4 -4");
        due("core 3", new SplitWatch().core(3, 0), BAD);
        due("the text", new SplitWatch().wipe(), 0);
        due("no fault", new SplitWatch().fault(), NONE);
        due("no command", new SplitWatch().play(), NO);
        SplitWatch x = new SplitWatch();
        SplitWatch y = new SplitWatch();
        busy(x);
        due("another object is not touched", stateOf(y), stateOf(new SplitWatch()));
    }

    private static void begin() {
        sentence("All as at first, with C, K, FAST, SLOW: C. (THE TEXT stays.)");
        int[][] ends = {{2, 1, 1, 1}, {4, 4, 9, 9}, {2, 4, 1, 9}, {4, 1, 9, 1}, {3, 2, 1, 3}};
        for (int[] e : ends) {
            SplitWatch x = made(Bench::busy);
            x.drop(1, 1);
            x.turn(3);
            due("one was sent away, one beaten", x.count(6) * 10 + x.count(7), 11);
            due("begin", x.begin(e[0], e[1], e[2], e[3]), e[0]);
            SplitWatch y = made(e[0], e[1], e[2], e[3]);
            type(y, "turn 4;read 2 1;drop 0 1;store 0 0 5;");
            due("all as at first", stateOf(x), stateOf(y));
            due("the counts", countsOf(y), e[0] + " " + e[1] + " " + e[2] + " " + e[3] + " 0 0 0 0 0 0 37");
            x = made(Bench::busy);
            x.begin(e[0], e[1], e[2], e[3]);
            y = made(e[0], e[1], e[2], e[3]);
            type(y, "turn 4;read 2 1;drop 0 1;store 0 0 5;");
            alikeLater("begin", x, y);
        }
        refused("all four are none", Bench::busy, x -> x.begin(0, 0, 0, 0), BAD);
        refused("all four are too high", Bench::busy, x -> x.begin(5, 5, 10, 10), BAD);
        refused("of a new object", x -> { }, x -> x.begin(1, 1, 1, 1), BAD);
    }

    private static void read() {
        sentence("A READ: the VALUE, if it is read at once; WAITS. BAD; NO: the CORE has an OP");
        SplitWatch x = made(2, 2, 1, 1);
        own(x, 0, 0, 0, 7, 9999);
        due("the lowest value", x.read(0, 0), 0);
        due("the highest value", x.read(0, 7), 9999);
        due("ops that ended", x.count(8), 4);
        due("missing", x.read(1, 7), WAITS);
        due("not ended", x.count(8), 4);
        refused("an op that waits", Bench::busy, b -> b.read(1, 0), NO);
        refused("an op that is open", Bench::busy, b -> b.read(2, 6), NO);
        refused("an op, a line in its cache", Bench::busy, b -> b.read(0, 1), NO);
        refused("an op, a line in its buffer", Bench::busy, b -> b.read(0, 0), NO);
        refused("BAD ahead of NO, the line", Bench::busy, b -> b.read(0, 8), BAD);
        refused("BAD ahead of NO, the core", Bench::busy, b -> b.read(3, 0), BAD);
    }

    private static void store() {
        sentence("A STORE of a VALUE (0 to 9999): 0, if it is done at once; WAITS. BAD; NO: the CORE has an OP");
        SplitWatch x = made(2, 2, 1, 1);
        due("missing", x.store(0, 7, 9999), WAITS);
        x.turn(2);
        due("the highest value", x.cached(0, 7, 1), 9999);
        due("at once", x.store(0, 7, 0), 0);
        due("the lowest value", x.cached(0, 7, 1), 0);
        due("at once, the highest", x.store(0, 7, 9999), 0);
        due("the highest value", x.cached(0, 7, 1), 9999);
        due("ops that ended", x.count(8), 3);
        refused("at once, a value too high", Bench::busyAndIdle, b -> b.store(3, 7, 10000), BAD);
        refused("at once, a value too low", Bench::busyAndIdle, b -> b.store(3, 7, -1), BAD);
        refused("an op that waits", Bench::busy, b -> b.store(1, 1, 5), NO);
        refused("an op that is open", Bench::busy, b -> b.store(2, 6, 5), NO);
        refused("an op, a line in its cache", Bench::busy, b -> b.store(0, 1, 5), NO);
        refused("an op, a line in its buffer", Bench::busy, b -> b.store(0, 0, 5), NO);
        refused("BAD ahead of NO, the value", Bench::busy, b -> b.store(0, 0, 10000), BAD);
        refused("BAD ahead of NO, the line", Bench::busy, b -> b.store(0, 8, 0), BAD);
        refused("BAD ahead of NO, the core", Bench::busy, b -> b.store(3, 0, 0), BAD);
    }

    private static void drop() {
        sentence("A CACHE gives a LINE up: as what it had it (1 to 3). BAD; NO: it is MISSING there; FULL: CHANGED, and the BUFFER has 2");
        refused("missing", Bench::busy, x -> x.drop(1, 5), NO);
        refused("in its buffer only", Bench::busy, x -> x.drop(0, 0), NO);
        refused("open by itself", Bench::busy, x -> x.drop(2, 6), NO);
        refused("in another cache only", Bench::busy, x -> x.drop(2, 1), NO);
        Consumer<SplitWatch> full = x -> {
            x.begin(2, 4, 1, 1);
            fetch(x, 1, 3);
            own(x, 0, 0, 10, 1, 11, 2, 12);
            fetch(x, 0, 3);
            x.drop(0, 1);
            x.drop(0, 0);
        };
        refused("changed, the buffer has 2", full, x -> x.drop(0, 2), FULL);
        refused("missing, the buffer has 2", full, x -> x.drop(0, 0), NO);
        refused("BAD, the buffer has 2", full, x -> x.drop(0, 8), BAD);
        SplitWatch x = made(full);
        due("shared, the buffer has 2", x.drop(0, 3), 1);
        due("nothing of it came there", bufferOf(x, 0), "1=11 0=10");
        x = made(full);
        x.drop(1, 3);
        x.turn(2);
        fetch(x, 0, 4);
        x.drop(0, 2);
        due("the buffer has 1", bufferOf(x, 0), "2=12");
        due("alone", x.drop(0, 4), 2);
        due("the op goes on by drop", x.read(0, 5), WAITS);
        due("a core with an op gives up, too", x.drop(0, 3), 1);
    }

    private static void turn() {
        sentence("n (1 to 99) TURNS: how many OPS ended in them");
        SplitWatch x = made(Bench::busy);
        SplitWatch y = made(Bench::busy);
        int ended = 0;
        for (int i = 0; i < 99; i++) {
            ended += y.turn(1);
        }
        due("99 at once", x.turn(99), ended);
        due("all three", ended, 3);
        due("as one by one", stateOf(x), stateOf(y));
        x = new SplitWatch();
        due("one", x.turn(1), 0);
        due("NOW", x.count(4), 1);
        due("99", x.turn(99), 0);
        due("NOW", x.count(4), 100);
        due("none without ops", x.turn(98), 0);
    }

    private static void cached() {
        sentence("0 to 3 (what = 0), its VALUE (1; NONE: it is MISSING), by how many LINES of it that CACHE was USED later (2; NONE)");
        SplitWatch x = made(2, 4, 1, 1);
        own(x, 0, 0, 9999);
        fetch(x, 0, 1, 2);
        fetch(x, 1, 2);
        int[][] want = {{3, 9999, 2}, {2, 0, 1}, {1, 0, 0}, {0, NONE, NONE}};
        for (int l = 0; l < want.length; l++) {
            for (int what = 0; what <= 2; what++) {
                due("cached(0, " + l + ", " + what + ")", x.cached(0, l, what), want[l][what]);
            }
        }
        fetch(x, 0, 7);
        due("of four lines three later", x.cached(0, 0, 2), 3);
        x.drop(0, 7);
        due("a line that is gone is none", x.cached(0, 0, 2), 2);
        x.drop(0, 0);
        due("in the buffer it is missing", x.cached(0, 0, 1), NONE);
        due("in the buffer it is missing", x.cached(0, 0, 2), NONE);
        due("a line open is missing", made(Bench::busy).cached(2, 6, 1), NONE);
    }

    private static void buffered() {
        sentence("which (what = 0), its VALUE (1); how many there are (i = -1). NONE: not so many");
        SplitWatch x = made(2, 4, 1, 1);
        own(x, 1, 7, 9999, 0, 0, 5, 1);
        int[] lines = {7, 0};
        int[] values = {9999, 0};
        for (int size = 0; size <= 2; size++) {
            due("how many, by 0", x.buffered(1, -1, 0), size);
            due("how many, by 1", x.buffered(1, -1, 1), size);
            for (int i = 0; i < 4; i++) {
                due("which", x.buffered(1, i, 0), i < size ? lines[i] : NONE);
                due("its value", x.buffered(1, i, 1), i < size ? values[i] : NONE);
            }
            due("of the other core", x.buffered(0, -1, 0), 0);
            if (size < 2) {
                x.drop(1, lines[size]);
            }
        }
        due("how many, by none that is told", x.buffered(1, -1, 2), BAD);
        due("BAD ahead of NONE", x.buffered(1, 2, 2), BAD);
        due("BAD ahead of NONE", x.buffered(2, 2, 0), BAD);
    }

    private static void core() {
        sentence("LAST VALUE (NONE at first), its OP (0 none), the LINE (NONE), TURNS (NONE), how it stands (NONE), SENT AWAY (NONE)");
        SplitWatch x = made(2, 2, 1, 9);
        due("at first", coreOf(x, 0), "-4 0 -4 -4 -4 -4");
        x.read(0, 0);
        due("asked just now", coreOf(x, 0), "-4 1 0 0 0 0");
        due("the other", coreOf(x, 1), "-4 0 -4 -4 -4 -4");
        x.turn(1);
        due("open", coreOf(x, 0), "-4 1 0 1 1 0");
        x.store(1, 0, 5);
        due("a store, asked just now", coreOf(x, 1), "-4 2 0 0 0 0");
        x.turn(8);
        due("the last turn that it is open", coreOf(x, 0), "-4 1 0 9 1 0");
        due("sent away in each turn", coreOf(x, 1), "-4 2 0 8 0 8");
        x.turn(1);
        due("ended", coreOf(x, 0), "0 0 -4 -4 -4 -4");
        due("open", coreOf(x, 1), "-4 2 0 9 1 8");
        x.turn(1);
        due("a store that ended", coreOf(x, 1), "-4 0 -4 -4 -4 -4");
        due("a line of highest number", x.read(0, 7), WAITS);
        due("its line", coreOf(x, 0), "0 1 7 0 0 0");
        x.turn(99);
        due("at rest", coreOf(x, 0), "0 0 -4 -4 -4 -4");
        x.read(0, 7);
        due("read at once: no op is left", coreOf(x, 0), "0 0 -4 -4 -4 -4");
    }

    private static void waiting() {
        sentence("Of what waits, the next one at an ADDRESS turn first, the i-th; how many wait (i = -1). NONE: not so many");
        SplitWatch x = made(Bench::busy);
        due("rise, back, read", waitsOf(x), "1U1@4+0 0B0@5+0 0R6@6+0");
        for (int what = 0; what <= 4; what++) {
            due("how many, by " + what, x.waiting(-1, what), 3);
            due("one too many", x.waiting(3, what), NONE);
        }
        due("how many, by none that is told", x.waiting(-1, 5), BAD);
        due("BAD ahead of NONE", x.waiting(3, 5), BAD);
        due("none waits", new SplitWatch().waiting(0, 0), NONE);
        due("none waits", new SplitWatch().waiting(-1, 0), 0);
        x = made(4, 2, 1, 5);
        x.read(0, 0);
        x.turn(1);
        x.read(1, 0);
        x.turn(3);
        x.read(2, 5);
        due("3 times, but its line is open", waitsOf(x), "1R0@4+3 2R5@5+0");
        x.turn(1);
        due("4 times, its line is open", waitsOf(x), "2R5@5+0 1R0@6+4");
        x.read(3, 6);
        x.turn(1);
        due("it went ahead of both", waitsOf(x), "2R5@5+0 3R6@7+0");
    }

    private static void waitingAheadOfOthers() {
        sentence("the next one at an ADDRESS turn first: what was SENT AWAY 3 times or more and whose LINE is not OPEN");
        SplitWatch x = made(4, 2, 1, 6);
        x.read(0, 0);
        x.read(3, 1);
        x.turn(2);
        x.read(1, 1);
        x.read(2, 0);
        x.turn(4);
        due("twice each", waitsOf(x), "1R1@6+2 2R0@7+2");
        due("line 0 is free, line 1 sent core 1 away", x.turn(1), 1);
        due("line 0 is free: core 2 was sent away twice", waitsOf(x), "2R0@7+2 1R1@8+3");
        x.read(0, 5);
        due("line 1 is free: core 1 ahead of core 2", x.turn(1), 1);
        due("the order", orderOf(x), "0R0 3R1 1R1");
        x = made(4, 2, 1, 9);
        x.read(0, 0);
        x.turn(1);
        x.read(1, 0);
        x.read(2, 0);
        x.turn(8);
        x.read(3, 4);
        due("4 times each, then core 3", waitsOf(x), "1R0@9+4 2R0@10+4 3R4@11+0");
        x.turn(1);
        due("core 1 opened line 0: core 2 by its place", waitsOf(x), "2R0@10+4 3R4@11+0");
        x.turn(1);
        due("the answer, then core 2", orderOf(x), "0R0 1R0 2R0");

        // A rise opens nothing: behind it the next one that was sent away often finds its line free, and waits ahead of all.
        x = made(4, 2, 1, 9);
        fetch(x, 0, 0);
        fetch(x, 1, 0);
        x.read(2, 0);
        x.turn(1);
        x.store(1, 0, 5);
        x.read(3, 0);
        x.turn(6);
        x.read(0, 5);
        x.turn(2);
        due("line 0 is open", waitsOf(x), "0R5@11+0 1U0@12+4 3R0@13+4");
        due("the answer, then the rise", x.turn(1), 2);
        due("line 0 is free", waitsOf(x), "3R0@13+4 0R5@11+0");
    }

    private static void open() {
        sentence("Of what is OPEN, that of the earliest ADDRESS turn first, the i-th; how many are (i = -1). NONE: not so many");
        SplitWatch x = made(4, 2, 1, 9);
        own(x, 3, 7, 70);
        x.store(2, 0, 1);
        x.read(0, 7);
        x.read(1, 6);
        x.turn(3);
        due("by the address turn; the fast one ended", opensOf(x), "2O0@30=3 1R6@32=2");
        for (int what = 0; what <= 4; what++) {
            due("how many, by " + what, x.open(-1, what), 2);
            due("one too many", x.open(2, what), NONE);
        }
        due("how many, by none that is told", x.open(-1, 5), BAD);
        due("BAD ahead of NONE", x.open(2, 5), BAD);
        x = made(4, 2, 1, 9);
        x.read(3, 3);
        x.store(0, 0, 1);
        x.read(2, 2);
        x.store(1, 1, 1);
        x.turn(4);
        due("not by cores, nor by kinds", opensOf(x), "3R3@10=2 0O0@11=3 2R2@12=2 1O1@13=3");
        due("none is open", new SplitWatch().open(0, 0), NONE);
        due("none is open", new SplitWatch().open(-1, 0), 0);
    }

    /** A day by the document's words, each time by the call that it tells. */
    private static int dayByCalls(SplitWatch x, int z, int n) {
        int could = 0;
        int cores = x.count(0);
        for (int k = 0; k < n; k++) {
            BigInteger sum = BigInteger.valueOf(7919).multiply(BigInteger.valueOf(z))
                    .add(BigInteger.valueOf(6151).multiply(BigInteger.valueOf(k))).add(BigInteger.ONE);
            int draw = sum.multiply(sum).mod(BigInteger.valueOf(65521)).intValueExact();
            int c = draw / 4 % cores;
            int l = draw / 64 % 8;
            int answer;
            switch (draw % 4) {
                case 0: answer = x.turn(1); break;
                case 1: answer = x.read(c, l); break;
                case 2: answer = x.store(c, l, draw / 512 % 100); break;
                default: answer = x.drop(c, l); break;
            }
            if (answer >= 0 || answer == WAITS) {
                could++;
            }
        }
        return could;
    }

    private static void day() {
        sentence("A DAY by z (0 to 9999) of n (1 to 40): how many it could be");
        int[] seeds = {0, 1, 271, 5000, 9998, 9999};
        int[] lengths = {1, 2, 39, 40};
        for (int c = 2; c <= 4; c++) {
            for (int z : seeds) {
                for (int n : lengths) {
                    SplitWatch x = made(c, 2, 1, 3);
                    SplitWatch y = made(c, 2, 1, 3);
                    due("day(" + z + ", " + n + ")", x.day(z, n), dayByCalls(y, z, n));
                    due("day(" + z + ", " + n + "), again", x.day(z, n), dayByCalls(y, z, n));
                    due("day(" + z + ", " + n + "), then all", stateOf(x), stateOf(y));
                }
            }
        }
        SplitWatch x = made(2, 2, 1, 1);
        due("a read", x.day(0, 1), 1);
        due("it can't be again", x.day(0, 1), 0);
        due("nothing changes then", waitsOf(x) + " " + x.count(4), "0R0@0+0 0");
    }

    private static void count() {
        sentence("How many: 0 CORES .. 10 letters of THE TEXT. BAD");
        SplitWatch x = made(Bench::busy);
        x.turn(10);
        due("all of them", countsOf(x), "3 2 2 5 71 7 2 0 6 5 37");
    }

    private static void lookingChangesNothing() {
        sentence("---- looked at");
        ToIntFunction<SplitWatch> looks = x -> {
            int sum = 0;
            for (int i = -2; i < 5; i++) {
                sum += x.order(i) + x.told(42, 42, '0' + i) + x.word(0, 1, i) + x.cached(0, i, 2) + x.buffered(0, i, 1);
                sum += x.memory(i) + x.truth(i) + x.core(i, 3) + x.waiting(i, 3) + x.open(i, 3) + x.count(i) + x.fault();
            }
            return sum == 0 ? 1 : 0;
        };
        refused("all that look", Bench::busy, looks, 0);
    }

    public static void main(String[] args) {
        ranges();
        lines();
        cores();
        newObject();
        begin();
        read();
        store();
        drop();
        turn();
        cached();
        buffered();
        core();
        waiting();
        waitingAheadOfOthers();
        open();
        day();
        count();
        lookingChangesNothing();
        finish();
    }
}
