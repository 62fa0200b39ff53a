import java.util.function.Consumer;
import java.util.function.ToIntFunction;

/** What the tests by hand share: ways to ask, to look at a whole object, and to tell what is not as due. */
abstract class Bench {
    static final int BAD = -1, NO = -2, FULL = -3, NONE = -4, WAITS = -5;
    static final int LOW = Integer.MIN_VALUE, HIGH = Integer.MAX_VALUE;
    private static int wrong = 0;
    private static String sentence = "";

    static void due(int promise, String call, int got, int want) {
        if (got != want) {
            tell("promise " + promise + ": " + call + " answered " + got + ", due is " + want);
        }
    }

    static void due(int promise, String call, String got, String want) {
        if (!got.equals(want)) {
            tell("promise " + promise + ": " + call + " told '" + got + "', due is '" + want + "'");
        }
    }

    /** The document's sentence that the checks behind this call are about. */
    static void sentence(String words) {
        sentence = words;
    }

    static void due(String call, int got, int want) {
        if (got != want) {
            tell("\"" + sentence + "\": " + call + " answered " + got + ", due is " + want);
        }
    }

    static void due(String call, String got, String want) {
        if (!got.equals(want)) {
            tell("\"" + sentence + "\": " + call + " told '" + got + "', due is '" + want + "'");
        }
    }

    static void taken(String call, int got) {
        if (got == BAD) {
            tell("\"" + sentence + "\": " + call + " answered BAD");
        }
    }

    private static void tell(String words) {
        wrong++;
        System.out.println(words);
    }

    static void finish() {
        System.out.println(wrong == 0 ? "all answers are as due" : wrong + " answers are not as due");
        if (wrong != 0) {
            System.exit(1);
        }
    }

    static SplitWatch made(int c, int k, int fast, int slow) {
        SplitWatch x = new SplitWatch();
        due(2, "begin", x.begin(c, k, fast, slow), c);
        return x;
    }

    static SplitWatch made(Consumer<SplitWatch> before) {
        SplitWatch x = new SplitWatch();
        before.accept(x);
        return x;
    }

    static void type(SplitWatch x, String text) {
        int before = x.count(10);
        for (int i = 0; i < text.length(); i++) {
            due(7, "write", x.write(text.charAt(i)), before + i + 1);
        }
    }

    static String orderOf(SplitWatch x) {
        StringBuilder line = new StringBuilder();
        int length = x.order(-1);
        for (int i = 0; i < length; i++) {
            line.append((char) x.order(i));
        }
        return line.toString();
    }

    static String wordOf(SplitWatch x, int c, int l) {
        StringBuilder word = new StringBuilder();
        int length = x.word(c, l, -1);
        for (int i = 0; i < length; i++) {
            word.append((char) x.word(c, l, i));
        }
        return word.toString();
    }

    /** Each as core, kind, line @ place + times sent away. */
    static String waitsOf(SplitWatch x) {
        StringBuilder rows = new StringBuilder();
        int size = x.waiting(-1, 0);
        for (int i = 0; i < size; i++) {
            rows.append(x.waiting(i, 0)).append("ROUB".charAt(x.waiting(i, 1))).append(x.waiting(i, 2));
            rows.append('@').append(x.waiting(i, 3)).append('+').append(x.waiting(i, 4)).append(' ');
        }
        return rows.toString().trim();
    }

    /** Each as core, kind, line @ due = as what it is to be. */
    static String opensOf(SplitWatch x) {
        StringBuilder rows = new StringBuilder();
        int size = x.open(-1, 0);
        for (int i = 0; i < size; i++) {
            rows.append(x.open(i, 0)).append("RO".charAt(x.open(i, 1))).append(x.open(i, 2));
            rows.append('@').append(x.open(i, 3)).append('=').append(x.open(i, 4)).append(' ');
        }
        return rows.toString().trim();
    }

    static String bufferOf(SplitWatch x, int c) {
        StringBuilder rows = new StringBuilder();
        int size = x.buffered(c, -1, 0);
        for (int i = 0; i < size; i++) {
            rows.append(x.buffered(c, i, 0)).append('=').append(x.buffered(c, i, 1)).append(' ');
        }
        return rows.toString().trim();
    }

    /** The lines of a cache, each as line, state's first letter = value, that which was used longest ago first. */
    static String cacheOf(SplitWatch x, int c) {
        String[] byUse = new String[8];
        int held = 0;
        for (int l = 0; l < 8; l++) {
            int state = x.cached(c, l, 0);
            if (state != 0) {
                byUse[7 - x.cached(c, l, 2)] = l + "?sac".substring(state, state + 1) + "=" + x.cached(c, l, 1);
                held++;
            }
        }
        StringBuilder rows = new StringBuilder();
        for (int i = 8 - held; i < 8; i++) {
            rows.append(byUse[i]).append(' ');
        }
        return rows.toString().trim();
    }

    static String coreOf(SplitWatch x, int c) {
        StringBuilder row = new StringBuilder();
        for (int what = 0; what <= 5; what++) {
            row.append(x.core(c, what)).append(' ');
        }
        return row.toString().trim();
    }

    static String countsOf(SplitWatch x) {
        StringBuilder row = new StringBuilder();
        for (int what = 0; what <= 10; what++) {
            row.append(x.count(what)).append(' ');
        }
        return row.toString().trim();
    }

    /** All that can be looked at; some 250 calls, so at most once on one object. */
    static String stateOf(SplitWatch x) {
        StringBuilder all = new StringBuilder();
        int cores = x.count(0);
        for (int c = 0; c < cores; c++) {
            all.append("core ").append(coreOf(x, c)).append(", cache ").append(cacheOf(x, c));
            all.append(", buffer ").append(bufferOf(x, c)).append("; ");
        }
        for (int l = 0; l < 8; l++) {
            all.append(x.memory(l)).append('/').append(x.truth(l)).append(' ');
        }
        all.append("; waits ").append(waitsOf(x)).append("; opens ").append(opensOf(x));
        all.append("; order ").append(orderOf(x)).append("; counts ").append(countsOf(x));
        return all.append("; fault ").append(x.fault()).toString();
    }

    /** Stores to lines, one behind the other, each waited for: line, value, line, value, .. */
    static void own(SplitWatch x, int c, int... linesAndValues) {
        for (int i = 0; i + 1 < linesAndValues.length; i += 2) {
            due(4, "store", x.store(c, linesAndValues[i], linesAndValues[i + 1]), WAITS);
            due(6, "turn", x.turn(20), 1);
        }
    }

    static void fetch(SplitWatch x, int c, int... lines) {
        for (int l : lines) {
            due(3, "read", x.read(c, l), WAITS);
            due(6, "turn", x.turn(20), 1);
        }
    }

    /**
     * Three cores, all with an op: core 2's is open, core 1's a rise, core 0's asks for the open line.
     * Line 1 is shared by two, line 0 in the buffer of core 0, and a text stands that can be played.
     */
    static void busy(SplitWatch x) {
        x.begin(3, 2, 2, 5);
        own(x, 0, 0, 10, 1, 11);
        fetch(x, 1, 1);
        x.read(2, 6);
        x.turn(1);
        x.store(1, 1, 77);
        x.drop(0, 0);
        x.read(0, 6);
        type(x, "turn 4;read 2 1;drop 0 1;store 0 0 5;");
    }

    /** Four cores, of which core 3 has no op and line 7 changed; others wait, and a text stands that can be played. */
    static void busyAndIdle(SplitWatch x) {
        x.begin(4, 2, 2, 5);
        own(x, 3, 7, 37);
        own(x, 0, 0, 10);
        x.read(2, 6);
        x.turn(1);
        x.drop(0, 0);
        x.read(0, 6);
        type(x, "turn 4;read 3 7;store 3 0 5;");
    }

    /** Both have come the same way: what can't be looked at, such as letters, values on their way and places, shows later. */
    static void alikeLater(String call, SplitWatch x, SplitWatch y) {
        due(call + ", then play()", x.play(), y.play());
        due(call + ", then turn(30)", x.turn(30), y.turn(30));
        due(call + ", then write", x.write(';'), y.write(';'));
        due(call + ", then read", x.read(0, 3), y.read(0, 3));
        due(call + ", then all", stateOf(x), stateOf(y));
    }

    /** The call is answered so, and neither at once nor later is anything else than it were without the call. */
    static void refused(String call, Consumer<SplitWatch> before, ToIntFunction<SplitWatch> asked, int want) {
        SplitWatch x = made(before);
        due(call, asked.applyAsInt(x), want);
        due(call + ", then all", stateOf(x), stateOf(made(before)));
        SplitWatch later = made(before);
        due(call, asked.applyAsInt(later), want);
        alikeLater(call, later, made(before));
    }
}
