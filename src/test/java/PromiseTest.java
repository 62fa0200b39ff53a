/** Each promise by hand: ordinary inputs, the edges that the document names, and wrong inputs. */
public final class PromiseTest extends Bench {
    /** Two cores share line 0 with value 5. */
    private static SplitWatch shared(int fast, int slow) {
        SplitWatch x = made(2, 2, fast, slow);
        own(x, 0, 0, 5);
        fetch(x, 1, 0);
        return x;
    }

    private static void newObject() {
        SplitWatch x = new SplitWatch();
        int[] counts = {3, 2, 1, 3, 0, 0, 0, 0, 0, 0, 0};
        for (int what = 0; what < counts.length; what++) {
            due(1, "count(" + what + ")", x.count(what), counts[what]);
        }
        for (int l = 0; l < 8; l++) {
            due(1, "memory", x.memory(l), 0);
            due(1, "truth", x.truth(l), 0);
            for (int c = 0; c < 3; c++) {
                due(1, "cached", x.cached(c, l, 0), 0);
            }
        }
        for (int c = 0; c < 3; c++) {
            due(1, "buffered", x.buffered(c, -1, 0), 0);
            due(1, "core, last value", x.core(c, 0), NONE);
            due(1, "core, op", x.core(c, 1), 0);
        }
        due(1, "waiting", x.waiting(-1, 0), 0);
        due(1, "open", x.open(-1, 0), 0);
        due(1, "order", x.order(-1), 0);
        due(1, "wipe", x.wipe(), 0);
        due(1, "core 3", x.core(3, 0), BAD);
    }

    private static void begin() {
        SplitWatch x = new SplitWatch();
        x.store(1, 2, 5);
        x.turn(2);
        int[][] bad = {{1, 2, 1, 3}, {5, 2, 1, 3}, {3, 0, 1, 3}, {3, 5, 1, 3}, {3, 2, 0, 3}, {3, 2, 10, 3},
            {3, 2, 1, 0}, {3, 2, 1, 10}, {LOW, 2, 1, 3}, {3, 2, 1, HIGH}};
        for (int[] b : bad) {
            due(2, "begin, a bad number", x.begin(b[0], b[1], b[2], b[3]), BAD);
        }
        due(2, "NOW stays by BAD", x.count(4), 2);
        due(2, "what is open stays by BAD", opensOf(x), "1O2@4=3");
        type(x, "turn 9;");
        x.turn(5);
        fetch(x, 0, 2);
        x.store(0, 2, 1);
        x.store(1, 2, 2);
        x.turn(2);
        x.turn(5);
        x.read(0, 4);
        x.turn(1);
        due(2, "one was beaten", x.count(7), 1);
        x.store(2, 4, 3);
        x.turn(1);
        due(2, "one was sent away", x.count(6), 1);
        x.turn(20);
        x.drop(2, 4);
        x.read(0, 3);
        x.store(1, 7, 7);
        due(2, "a back, a read and an own wait", x.waiting(-1, 0), 3);
        due(2, "begin(4, 1, 9, 1)", x.begin(4, 1, 9, 1), 4);
        int[] counts = {4, 1, 9, 1, 0, 0, 0, 0, 0, 0, 7};
        for (int what = 0; what < counts.length; what++) {
            due(2, "count(" + what + ") as at first", x.count(what), counts[what]);
        }
        due(2, "memory", x.memory(2), 0);
        due(2, "truth", x.truth(7), 0);
        due(2, "cached", x.cached(0, 2, 0), 0);
        due(2, "the buffer", bufferOf(x, 2), "");
        due(2, "last value", x.core(0, 0), NONE);
        due(2, "op", x.core(0, 1), 0);
        due(2, "waits", waitsOf(x), "");
        due(2, "opens", opensOf(x), "");
        due(2, "order", orderOf(x), "");
        due(2, "a core more", x.read(3, 0), WAITS);
        due(2, "places begin again", x.waiting(0, 3), 0);
        due(2, "begin(2, 4, 1, 1)", x.begin(2, 4, 1, 1), 2);
        due(2, "a core less", x.read(2, 0), BAD);
        due(2, "nothing of a core that is gone waits", x.waiting(-1, 0), 0);
        due(2, "the highest of all", x.begin(4, 4, 9, 9), 4);
        due(2, "the lowest of all", x.begin(2, 1, 1, 1), 2);
    }

    private static void read() {
        SplitWatch x = made(2, 2, 1, 2);
        int[][] bad = {{-1, 0}, {2, 0}, {0, -1}, {0, 8}, {LOW, HIGH}};
        for (int[] b : bad) {
            due(3, "read, a bad number", x.read(b[0], b[1]), BAD);
        }
        due(3, "a miss", x.read(0, 7), WAITS);
        due(3, "a second op", x.read(0, 7), NO);
        due(3, "BAD ahead of NO", x.read(0, 8), BAD);
        due(3, "asked once", waitsOf(x), "0R7@0+0");
        due(3, "ended", x.turn(3), 1);
        due(3, "a hit", x.read(0, 7), 0);
        due(3, "a hit ends at once", x.count(8), 2);
        own(x, 0, 1, 41, 2, 42);
        due(3, "a hit of what was stored", x.read(0, 1), 41);
        due(3, "the last value", x.core(0, 0), 41);
        due(3, "a hit uses the line", x.cached(0, 2, 2), 1);

        x.drop(0, 2);
        due(3, "from the buffer", x.read(0, 2), 42);
        due(3, "gone from there", bufferOf(x, 0), "");
        due(3, "with its back", waitsOf(x), "");
        due(3, "changed as it was", wordOf(x, 0, 2), "changed");
        x.turn(9);
        due(3, "memory has not got it", x.memory(2), 0);

        x = cacheAndBuffer();
        due(3, "from the buffer, the cache being full", x.read(0, 0), 10);
        due(3, "line 1 was given up for it", bufferOf(x, 0), "1=11");
        due(3, "with a back of its own", waitsOf(x), "0B1@4+0");
        due(3, "line 0 is there", x.cached(0, 0, 0), 3);
        due(3, "line 1 is not", x.cached(0, 1, 0), 0);
    }

    /** K is 1: core 0 has line 1 changed in its cache and line 0 in its buffer. */
    private static SplitWatch cacheAndBuffer() {
        SplitWatch x = made(2, 1, 1, 1);
        own(x, 0, 0, 10);
        x.store(0, 1, 11);
        x.read(1, 7);
        // The request of core 1 is ahead of the back of line 0, which is asked at the answer.
        due(6, "line 1 comes, line 7 is ordered", x.turn(2), 1);
        due(6, "the order", orderOf(x), "0O0 0O1 1R7");
        due(6, "given up when filled", bufferOf(x, 0), "0=10");
        due(6, "its back is asked", waitsOf(x), "0B0@3+0");
        return x;
    }

    private static void store() {
        SplitWatch x = made(2, 2, 1, 1);
        int[][] bad = {{-1, 0, 0}, {2, 0, 0}, {0, -1, 0}, {0, 8, 0}, {0, 0, -1}, {0, 0, 10000}, {0, 0, LOW}};
        for (int[] b : bad) {
            due(4, "store, a bad number", x.store(b[0], b[1], b[2]), BAD);
        }
        due(4, "to a missing line", x.store(0, 3, 9999), WAITS);
        due(4, "OWN is asked", waitsOf(x), "0O3@0+0");
        due(4, "a second op", x.store(0, 3, 1), NO);
        due(4, "BAD ahead of NO", x.store(0, 3, 10000), BAD);
        due(4, "nothing changes by NO", x.waiting(-1, 0), 1);
        due(4, "it ends", x.turn(2), 1);
        due(4, "the value", x.cached(0, 3, 1), 9999);
        due(4, "a store leaves the last value", x.core(0, 0), NONE);
        due(4, "to a changed line", x.store(0, 3, 0), 0);
        due(4, "at once", x.cached(0, 3, 1), 0);
        fetch(x, 0, 4);
        due(4, "alone", x.cached(0, 4, 0), 2);
        due(4, "a fill uses the line", x.cached(0, 3, 2), 1);
        due(4, "a store uses the line", x.store(0, 3, 8), 0);
        due(4, "line 4 was used earlier", x.cached(0, 4, 2), 1);
        due(4, "to a line alone", x.store(0, 4, 6), 0);
        due(4, "changed then", x.cached(0, 4, 0), 3);
        due(4, "memory is as it was", x.memory(4), 0);
        due(4, "ended", x.count(8), 5);
        x.drop(0, 4);
        due(4, "to a line in the buffer", x.store(0, 4, 7), 0);
        due(4, "the value", x.cached(0, 4, 1), 7);
        due(4, "gone from the buffer with its back", waitsOf(x), "");
        fetch(x, 1, 4);
        due(4, "to a shared line", x.store(0, 4, 1), WAITS);
        due(4, "RISE is asked", waitsOf(x).substring(0, 3), "0U4");
        due(4, "not yet there", x.cached(0, 4, 1), 7);

        x = cacheAndBuffer();
        due(4, "to the buffer, the cache being full", x.store(0, 0, 12), 0);
        due(4, "the value", x.cached(0, 0, 1), 12);
        due(4, "line 1 was given up for it", bufferOf(x, 0), "1=11");
    }

    private static void drop() {
        SplitWatch x = made(3, 3, 1, 1);
        int[][] bad = {{-1, 0}, {3, 0}, {0, -1}, {0, 8}, {HIGH, LOW}};
        for (int[] b : bad) {
            due(5, "drop, a bad number", x.drop(b[0], b[1]), BAD);
        }
        due(5, "a missing line", x.drop(0, 0), NO);
        fetch(x, 0, 0);
        fetch(x, 1, 0);
        due(5, "a shared line", x.drop(0, 0), 1);
        due(5, "gone", x.cached(0, 0, 0), 0);
        fetch(x, 0, 1);
        due(5, "a line alone", x.drop(0, 1), 2);
        due(5, "nothing goes back", waitsOf(x) + bufferOf(x, 0), "");
        own(x, 0, 2, 22, 3, 33, 4, 44);
        due(5, "a changed line", x.drop(0, 3), 3);
        due(5, "again", x.drop(0, 3), NO);
        due(5, "another", x.drop(0, 2), 3);
        due(5, "the buffer", bufferOf(x, 0), "3=33 2=22");
        due(5, "its backs", waitsOf(x), "0B3@6+0 0B2@7+0");
        due(5, "a third", x.drop(0, 4), FULL);
        due(5, "nothing changes by FULL", x.cached(0, 4, 0), 3);
        due(5, "nothing changes by FULL", x.waiting(-1, 0), 2);
        due(5, "a back", x.turn(1), 0);
        due(5, "memory", x.memory(3), 33);
        due(5, "the third now", x.drop(0, 4), 3);
        due(5, "the buffer", bufferOf(x, 0), "2=22 4=44");
        x.turn(2);
        due(5, "memory", x.memory(2), 22);
        due(5, "memory", x.memory(4), 44);
        due(5, "each is told", orderOf(x), "0R0 1R0 0R1 0O2 0O3 0O4 0B3 0B2 0B4");

        x = made(2, 4, 1, 1);
        own(x, 0, 0, 1, 1, 1);
        fetch(x, 0, 2);
        x.drop(0, 0);
        x.drop(0, 1);
        due(5, "a line alone, the buffer being full", x.drop(0, 2), 2);
    }

    private static void turnsAndAnswers() {
        SplitWatch x = made(2, 2, 1, 3);
        int[] bad = {0, -1, 100, LOW, HIGH};
        for (int b : bad) {
            due(6, "turn, a bad number", x.turn(b), BAD);
        }
        due(6, "NOW stays by BAD", x.count(4), 0);
        due(6, "turn(99)", x.turn(99), 0);
        due(6, "NOW", x.count(4), 99);
        due(6, "turn(1)", x.turn(1), 0);

        // Line 0 is ordered at turn 1 and slow, line 1 at turn 3 and fast: both are due at turn 4.
        x = made(3, 2, 1, 3);
        own(x, 2, 1, 9);
        x.store(0, 0, 5);
        x.turn(2);
        x.read(1, 1);
        x.turn(1);
        due(6, "both due at once", opensOf(x), "0O0@24=3 1R1@24=1");
        due(6, "one answer in a turn", x.turn(1), 1);
        due(6, "the earliest address turn first", opensOf(x), "1R1@24=1");
        due(6, "answers", x.count(9), 2);
        due(6, "the other one", x.turn(1), 1);
        due(6, "its value", x.core(1, 0), 9);

        // Line 0 is slow, line 1 is ordered later but due earlier.
        x = made(3, 2, 1, 9);
        own(x, 2, 1, 9);
        x.read(0, 0);
        x.read(1, 1);
        x.turn(2);
        due(6, "slow and fast", opensOf(x), "0R0@30=2 1R1@23=1");
        due(6, "the later one is due first", x.turn(1), 1);
        due(6, "the other is open", opensOf(x), "0R0@30=2");
        due(6, "not yet", x.turn(6), 0);
        due(6, "now", x.turn(1), 1);

        // Filled, a cache of two gives up what was used longest ago; a line that is not changed is just gone.
        x = made(2, 2, 1, 1);
        fetch(x, 0, 0);
        fetch(x, 0, 1);
        x.read(0, 0);
        fetch(x, 0, 2);
        due(6, "line 1 was used longest ago", x.cached(0, 1, 0), 0);
        due(6, "line 0 was not", x.cached(0, 0, 0), 2);
        due(6, "no back of it", orderOf(x), "0R0 0R1 0R2");
        x.store(0, 0, 3);
        fetch(x, 0, 3);
        fetch(x, 0, 4);
        due(6, "a changed line goes back", orderOf(x), "0R0 0R1 0R2 0R3 0R4 0B0");
        due(6, "memory has it", x.memory(0), 3);
    }

    private static void readsAndOwns() {
        // A read of a changed line: fast, memory has it, both share it.
        SplitWatch x = made(3, 2, 2, 7);
        own(x, 0, 0, 5);
        x.read(1, 0);
        x.turn(1);
        due(6, "a read of a changed line", opensOf(x), "1R0@23=1");
        due(6, "memory has it at once", x.memory(0), 5);
        due(6, "shared there at once", x.cached(0, 0, 0), 1);
        due(6, "not yet here", x.cached(1, 0, 0), 0);
        due(6, "it comes", x.turn(2), 1);
        due(6, "shared here", x.cached(1, 0, 0), 1);
        due(6, "its value", x.core(1, 0), 5);
        // A read of a shared line: slow.
        x.read(2, 0);
        x.turn(1);
        due(6, "a read of a shared line", opensOf(x), "2R0@31=1");
        x.drop(0, 0);
        x.drop(1, 0);
        x.turn(7);
        due(6, "as it was to be", x.cached(2, 0, 0), 1);
        // An own of a shared line: slow, all others lose it.
        x.store(0, 0, 6);
        x.turn(1);
        due(6, "an own of a shared line", opensOf(x), "0O0@39=3");
        due(6, "missing there at once", x.cached(2, 0, 0), 0);
        due(6, "memory is as it was", x.memory(0), 5);
        x.turn(7);
        // An own of a changed line: fast, memory has not got it.
        x.store(1, 0, 7);
        x.turn(1);
        due(6, "an own of a changed line", opensOf(x), "1O0@42=3");
        due(6, "missing there at once", x.cached(0, 0, 0), 0);
        due(6, "memory is as it was", x.memory(0), 5);
        x.turn(2);
        due(6, "its value", x.cached(1, 0, 1), 7);
        // A read of a line alone: fast.
        fetch(x, 0, 1);
        x.read(1, 1);
        x.turn(1);
        due(6, "a read of a line alone", opensOf(x), "1R1@65=1");
        due(6, "shared there", x.cached(0, 1, 0), 1);
        x.turn(2);
        // An own of a line alone: fast.
        fetch(x, 0, 2);
        x.store(1, 2, 3);
        x.turn(1);
        due(6, "an own of a line alone", opensOf(x), "1O2@88=3");
    }

    private static void buffers() {
        // The request of core 1 is ahead of the back, which goes with it.
        SplitWatch x = made(2, 2, 2, 7);
        own(x, 0, 0, 5);
        x.read(1, 0);
        x.drop(0, 0);
        due(6, "the read is first", waitsOf(x), "1R0@1+0 0B0@2+0");
        x.turn(1);
        due(6, "a read of a buffered line", opensOf(x), "1R0@23=2");
        due(6, "gone from the buffer", bufferOf(x, 0), "");
        due(6, "with its back", waitsOf(x), "");
        due(6, "memory has it", x.memory(0), 5);
        due(6, "it comes", x.turn(2), 1);
        due(6, "alone", x.cached(1, 0, 0), 2);
        due(6, "its value", x.core(1, 0), 5);

        x = made(2, 2, 2, 7);
        own(x, 0, 0, 5);
        x.store(1, 0, 6);
        x.drop(0, 0);
        x.turn(1);
        due(6, "an own of a buffered line", opensOf(x), "1O0@23=3");
        due(6, "gone from the buffer", bufferOf(x, 0), "");
        due(6, "with its back", waitsOf(x), "");
        due(6, "memory is as it was", x.memory(0), 0);
        x.turn(5);
        due(6, "no back of it", orderOf(x), "0O0 1O0");
        due(6, "the truth", x.truth(0), 6);

        // The back first: then it is slow, from memory.
        x = made(2, 2, 2, 7);
        own(x, 0, 0, 5);
        x.drop(0, 0);
        x.read(1, 0);
        x.turn(2);
        due(6, "a read from memory", opensOf(x), "1R0@29=2");
        due(6, "the order", orderOf(x), "0O0 0B0 1R0");
    }

    private static void rises() {
        SplitWatch x = shared(2, 4);
        x.store(0, 0, 6);
        x.store(1, 0, 7);
        due(6, "both rise", waitsOf(x), "0U0@2+0 1U0@3+0");
        due(6, "the first ends at once", x.turn(1), 1);
        due(6, "it has it", x.cached(0, 0, 1), 6);
        due(6, "changed", x.cached(0, 0, 0), 3);
        due(6, "the other has not", x.cached(1, 0, 0), 0);
        due(6, "a rise is no answer", x.count(9), 2);
        due(6, "not beaten yet", x.count(7), 0);
        x.turn(1);
        due(6, "beaten", x.count(7), 1);
        due(6, "an own in its stead, from a changed line", opensOf(x), "1O0@44=3");
        due(6, "one of the order", x.count(5), 4);
        due(6, "the order", orderOf(x), "0O0 1R0 0U0 1W0");
        due(6, "it ends", x.turn(2), 1);
        due(6, "the truth", x.truth(0), 7);

        x = shared(2, 4);
        x.store(0, 0, 6);
        due(6, "given up while the rise waits", x.drop(0, 0), 1);
        x.turn(1);
        due(6, "beaten then, too", x.count(7), 1);
        due(6, "it is slow from a shared line", opensOf(x), "0O0@45=3");
        due(6, "the other has it no more", x.cached(1, 0, 0), 0);
        x.turn(4);
        due(6, "the value", x.cached(0, 0, 1), 6);

        // A rise uses the line.
        x = made(2, 2, 1, 1);
        fetch(x, 0, 0);
        fetch(x, 1, 0);
        fetch(x, 0, 1);
        x.store(0, 0, 5);
        x.turn(1);
        due(6, "line 1 was used earlier", x.cached(0, 1, 2), 1);
    }

    private static void sentAway() {
        SplitWatch x = made(4, 2, 1, 9);
        x.read(0, 0);
        x.turn(1);
        x.read(1, 0);
        x.turn(2);
        due(6, "sent away twice", waitsOf(x), "1R0@3+2");
        x.turn(5);
        due(6, "sent away seven times", waitsOf(x), "1R0@8+7");
        x.read(2, 5);
        x.store(3, 6, 1);
        x.turn(1);
        due(6, "behind all while its line is open", waitsOf(x), "2R5@9+0 3O6@10+0 1R0@11+8");
        due(6, "an answer and an address turn", x.turn(1), 1);
        due(6, "before all others in the end", orderOf(x), "0R0 1R0");
        due(6, "sent away in all", x.count(6), 8);
        due(6, "it is fast", opensOf(x), "1R0@11=1");

        // Sent away twice is not enough.
        x = made(4, 2, 1, 4);
        x.read(0, 0);
        x.turn(2);
        x.read(1, 0);
        x.turn(1);
        x.read(2, 5);
        x.read(3, 6);
        x.turn(1);
        due(6, "sent away twice", waitsOf(x), "2R5@3+0 3R6@4+0 1R0@5+2");
        x.turn(1);
        due(6, "the lowest place first", orderOf(x), "0R0 2R5");

        // Sent away three times is enough; of two the lowest place.
        x = made(4, 2, 1, 7);
        x.read(0, 0);
        x.turn(1);
        x.read(1, 0);
        x.read(2, 0);
        x.turn(5);
        due(6, "three times and twice", waitsOf(x), "2R0@6+2 1R0@7+3");
        x.read(3, 4);
        x.turn(1);
        due(6, "both three times", waitsOf(x), "1R0@7+3 3R4@8+0 2R0@9+3");
        due(6, "line 0 comes", x.turn(1), 1);
        due(6, "core 1 before core 3", orderOf(x), "0R0 1R0");
        due(19, "while line 0 is open", waitsOf(x), "3R4@8+0 2R0@9+3");
        due(6, "core 1 has it: before core 3", x.turn(1), 1);
        due(6, "core 2 before core 3", orderOf(x), "0R0 1R0 2R0");

        // A rise is sent away, too, while another reads the line.
        x = made(3, 2, 1, 5);
        own(x, 0, 0, 5);
        fetch(x, 1, 0);
        x.read(2, 0);
        x.turn(1);
        x.store(0, 0, 6);
        x.turn(1);
        due(6, "a rise is sent away", waitsOf(x), "0U0@4+1");
        due(6, "a hit of an open line", x.read(1, 0), 5);
        due(6, "the read comes, then the rise", x.turn(4), 2);
        due(6, "the reader had it and lost it", x.cached(2, 0, 0), 0);
        due(6, "it read the old one", x.core(2, 0), 5);
        due(6, "the truth", x.truth(0), 6);
    }

    private static void write() {
        SplitWatch x = new SplitWatch();
        int[] bad = {31, 127, -1, 0, LOW, HIGH, 32 + 65536};
        for (int b : bad) {
            due(7, "write, a bad letter", x.write(b), BAD);
        }
        due(7, "the lowest letter", x.write(32), 1);
        due(7, "the highest letter", x.write(126), 2);
        for (int i = 3; i <= 200; i++) {
            due(7, "write", x.write(';'), i);
        }
        due(7, "the 201st", x.write(';'), FULL);
        due(7, "BAD ahead of FULL", x.write(127), BAD);
        due(7, "its length", x.count(10), 200);
    }

    private static void wipe() {
        SplitWatch x = new SplitWatch();
        type(x, "turn 7;");
        due(8, "wipe", x.wipe(), 7);
        due(8, "again", x.wipe(), 0);
        due(8, "empty", x.count(10), 0);
        due(8, "nothing is played", x.play(), NO);
        type(x, "t");
        due(8, "what was wiped is not read", x.fault(), 0);
        due(8, "only the text", x.count(4), 0);
    }

    private static void faultIs(String text, int want) {
        SplitWatch x = new SplitWatch();
        type(x, text);
        due(9, "fault of '" + text + "'", x.fault(), want);
        if (want != NONE) {
            due(10, "play of '" + text + "'", x.play(), NO);
            due(10, "nothing is played of '" + text + "'", x.count(4) + x.count(5) + x.waiting(-1, 0), 0);
        }
    }

    private static void fault() {
        String[] right = {"", "read 0 0;", "read 2 7;", "store 0 0 0;", "store 2 7 9999;", "drop 0 0;", "drop 2 7;",
            "turn 1;", "turn 99;", "turn 01;", "turn 0099;", "read 0002 0007;", "store 00 00 0000;", "turn 1;turn 1;"};
        for (String text : right) {
            faultIs(text, NONE);
        }
        String[] faulty = {";", " ", "x", "turn", "turn;", "turn ", "turn ;", "turn 1", "turn 1 ", "turn 1 ;", "turn  1;",
            " turn 1;", "turn 0;", "turn 100;", "turn 00001;", "turn 1 1;", "turn -1;", "turn +1;", "turn x;", "turn 1x;",
            "Turn 1;", "turns 1;", "tur 1;", "turn1;", "read 0;", "read 0 0 0;", "read 3 0;", "read 0 8;", "read 00000 0;",
            "read;", "reads 0 0;", "store 0 0;", "store 0 0 0 0;", "store 3 0 0;", "store 0 8 0;", "store 0 0 10000;",
            "drop 0;", "drop 0 0 0;", "drop 3 0;", "drop 0 8;", "wipe;", "read 0 0:", "read,0 0;", "read 0,0;"};
        for (String text : faulty) {
            faultIs(text, 0);
            faultIs("turn 1;" + text, 7);
            faultIs("read 1 2;store 2 1 12;" + text, 22);
            faultIs(text + "turn 1;", 0);
        }
        faultIs("turn 1; turn 1;", 7);
        faultIs("turn 1;;turn 1;", 7);
        faultIs("turn 1;read 3 0;x", 7);

        SplitWatch x = made(2, 1, 1, 1);
        type(x, "turn 1;read 2 0;");
        due(9, "two cores", x.fault(), 7);
        x.begin(4, 1, 1, 1);
        due(9, "four cores", x.fault(), NONE);
        x = new SplitWatch();
        for (int i = 0; i < 200; i += 8) {
            type(x, "turn 99;");
        }
        due(9, "200 letters", x.fault(), NONE);
        due(10, "25 commands", x.play(), 25);
        due(10, "all turns", x.count(4), 2475);
    }

    private static void play() {
        SplitWatch x = new SplitWatch();
        due(10, "no command", x.play(), NO);
        type(x, "store 0 5 100;read 0 5;turn 4;read 0 5;drop 0 5;drop 0 5;read 1 5;turn 1;turn 9;");
        due(10, "one read and one drop are refused", x.play(), 7);
        due(10, "NOW", x.count(4), 14);
        due(10, "the value", x.core(1, 0), 100);
        due(10, "the order", orderOf(x), "0O5 0B5 1R5");
        due(10, "the text stays", x.count(10), 80);
        due(10, "once more", x.play(), 7);
        due(10, "the order", orderOf(x), "0O5 0B5 1R5 0O5 0B5 1R5");
        x = made(2, 4, 1, 1);
        type(x, "store 0 0 1;turn 9;store 0 1 1;turn 9;store 0 2 1;turn 9;drop 0 0;drop 0 1;drop 0 2;");
        due(10, "FULL is a refusal", x.play(), 8);
    }

    private static void order() {
        SplitWatch x = made(2, 4, 1, 1);
        due(11, "empty", x.order(-1), 0);
        due(11, "no letter", x.order(0), NONE);
        due(11, "below -1", x.order(-2), BAD);
        due(11, "far below", x.order(LOW), BAD);
        due(11, "far above", x.order(HIGH), NONE);
        fetch(x, 1, 7);
        due(11, "one", orderOf(x), "1R7");
        due(11, "behind it", x.order(3), NONE);
        // Seven times an own and a back: fifteen in all.
        for (int l = 0; l < 7; l++) {
            own(x, 0, l, l);
            x.drop(0, l);
            x.turn(1);
        }
        due(11, "fifteen", x.order(-1), 59);
        fetch(x, 1, 6);
        due(11, "sixteen", orderOf(x), "1R7 0O0 0B0 0O1 0B1 0O2 0B2 0O3 0B3 0O4 0B4 0O5 0B5 0O6 0B6 1R6");
        fetch(x, 1, 5);
        due(11, "the last sixteen", orderOf(x), "0O0 0B0 0O1 0B1 0O2 0B2 0O3 0B3 0O4 0B4 0O5 0B5 0O6 0B6 1R6 1R5");
        due(11, "in all", x.count(5), 17);
        due(11, "behind the last", x.order(63), NONE);

        due(12, "those that were last are told alone", x.told('1', 'R', '7'), 0);
        due(12, "all", x.told(42, 42, 42), 16);
        due(12, "of core 0", x.told('0', 42, 42), 14);
        due(12, "backs", x.told(42, 'B', 42), 7);
        due(12, "of line 5", x.told(42, 42, '5'), 3);
        due(12, "one of them", x.told('1', 'R', '5'), 1);
        due(12, "none", x.told('1', 'B', '5'), 0);
        due(12, "letters that none has", x.told(32, 126, 63), 0);
        int[] bad = {31, 127, -1, LOW, HIGH};
        for (int b : bad) {
            due(12, "told, a bad letter", x.told(b, 42, 42), BAD);
            due(12, "told, a bad letter", x.told(42, b, 42), BAD);
            due(12, "told, a bad letter", x.told(42, 42, b), BAD);
        }
        due(12, "nothing yet", new SplitWatch().told(42, 42, 42), 0);

        x.begin(3, 1, 1, 1);
        due(12, "none of what was ahead of begin", x.told(42, 42, 42), 0);
        fetch(x, 2, 4);
        due(11, "the first behind begin", orderOf(x), "2R4");
        due(12, "the first behind begin", x.told('2', 'R', '4'), 1);
        due(12, "and no other", x.told(42, 42, 42), 1);
    }

    private static void word() {
        SplitWatch x = made(2, 2, 1, 1);
        due(13, "missing", wordOf(x, 0, 0), "missing");
        fetch(x, 0, 0);
        due(13, "alone", wordOf(x, 0, 0), "alone");
        fetch(x, 1, 0);
        due(13, "shared", wordOf(x, 0, 0), "shared");
        own(x, 1, 3, 4);
        due(13, "changed", wordOf(x, 1, 3), "changed");
        x.drop(1, 3);
        due(13, "buffered", wordOf(x, 1, 3), "buffered");
        due(13, "not in this core's buffer", wordOf(x, 0, 3), "missing");
        due(13, "its end", x.word(1, 3, 8), NONE);
        due(13, "far behind", x.word(1, 3, HIGH), NONE);
        x.turn(1);
        due(13, "missing again", wordOf(x, 1, 3), "missing");
        due(13, "its end", x.word(1, 3, 7), NONE);
        int[][] bad = {{-1, 0, 0}, {2, 0, 0}, {0, -1, 0}, {0, 8, 0}, {0, 0, -2}, {0, 0, LOW}, {2, 0, 99}};
        for (int[] b : bad) {
            due(13, "word, a bad number", x.word(b[0], b[1], b[2]), BAD);
        }
    }

    private static void cached() {
        SplitWatch x = made(2, 3, 1, 1);
        own(x, 0, 0, 7);
        fetch(x, 0, 1);
        fetch(x, 0, 2);
        due(14, "changed", x.cached(0, 0, 0), 3);
        due(14, "alone", x.cached(0, 1, 0), 2);
        due(14, "its value", x.cached(0, 0, 1), 7);
        due(14, "used later", x.cached(0, 0, 2), 2);
        due(14, "used later", x.cached(0, 1, 2), 1);
        due(14, "used last", x.cached(0, 2, 2), 0);
        x.drop(0, 1);
        due(14, "only lines that are there", x.cached(0, 0, 2), 1);
        due(14, "missing", x.cached(0, 1, 0), 0);
        due(14, "missing", x.cached(0, 1, 1), NONE);
        due(14, "missing", x.cached(0, 1, 2), NONE);
        x.drop(0, 0);
        due(14, "buffered is missing", x.cached(0, 0, 1), NONE);
        int[][] bad = {{-1, 0, 0}, {2, 0, 0}, {0, -1, 0}, {0, 8, 0}, {0, 0, -1}, {0, 0, 3}, {0, 0, HIGH}};
        for (int[] b : bad) {
            due(14, "cached, a bad number", x.cached(b[0], b[1], b[2]), BAD);
        }
    }

    private static void buffered() {
        SplitWatch x = made(2, 4, 1, 1);
        due(15, "none", x.buffered(1, -1, 0), 0);
        due(15, "none", x.buffered(1, 0, 0), NONE);
        own(x, 1, 6, 16, 2, 12, 4, 14);
        x.drop(1, 6);
        x.drop(1, 2);
        due(15, "both", bufferOf(x, 1), "6=16 2=12");
        due(15, "not so many", x.buffered(1, 2, 0), NONE);
        due(15, "not so many", x.buffered(1, HIGH, 1), NONE);
        due(15, "of another core", x.buffered(0, -1, 1), 0);
        x.turn(1);
        due(15, "the first is back", bufferOf(x, 1), "2=12");
        x.drop(1, 4);
        due(15, "behind what is there", bufferOf(x, 1), "2=12 4=14");
        int[][] bad = {{-1, 0, 0}, {2, 0, 0}, {0, -2, 0}, {0, LOW, 0}, {0, 0, -1}, {0, 0, 2}, {0, 9, 2}};
        for (int[] b : bad) {
            due(15, "buffered, a bad number", x.buffered(b[0], b[1], b[2]), BAD);
        }
    }

    private static void memoryAndTruth() {
        SplitWatch x = made(2, 2, 3, 3);
        int[] bad = {-1, 8, LOW, HIGH};
        for (int b : bad) {
            due(16, "memory, a bad line", x.memory(b), BAD);
            due(17, "truth, a bad line", x.truth(b), BAD);
        }
        x.store(0, 7, 70);
        due(17, "nothing is ordered", x.truth(7), 0);
        x.turn(1);
        due(17, "open by own", x.truth(7), 70);
        due(17, "missing in the cache", x.cached(0, 7, 0), 0);
        x.turn(3);
        due(17, "changed", x.truth(7), 70);
        due(16, "not there yet", x.memory(7), 0);
        x.store(0, 7, 71);
        due(17, "stored at once", x.truth(7), 71);
        x.drop(0, 7);
        due(17, "buffered", x.truth(7), 71);
        due(16, "not there yet", x.memory(7), 0);
        x.turn(1);
        due(16, "there", x.memory(7), 71);
        due(17, "in memory", x.truth(7), 71);
        x.read(1, 7);
        x.turn(1);
        due(17, "open by read", x.truth(7), 71);
        x.turn(3);
        due(17, "alone", x.truth(7), 71);
        x.store(0, 7, 72);
        x.turn(1);
        due(17, "owned by another", x.truth(7), 72);
        x.store(1, 7, 73);
        x.turn(2);
        due(17, "what is sent away does not count", x.truth(7), 72);
        x.turn(1);
        due(17, "what is ordered does", x.truth(7), 73);
        due(16, "as it was", x.memory(7), 71);
    }

    private static void core() {
        SplitWatch x = made(3, 2, 1, 5);
        int[] idle = {NONE, 0, NONE, NONE, NONE, NONE};
        for (int what = 0; what < idle.length; what++) {
            due(18, "core(0, " + what + ") at first", x.core(0, what), idle[what]);
        }
        own(x, 2, 3, 33);
        x.store(0, 3, 34);
        x.turn(1);
        x.read(1, 3);
        int[] asked = {NONE, 1, 3, 0, 0, 0};
        for (int what = 0; what < asked.length; what++) {
            due(18, "core(1, " + what + ") asked", x.core(1, what), asked[what]);
        }
        int[] owns = {NONE, 2, 3, 1, 1, 0};
        for (int what = 0; what < owns.length; what++) {
            due(18, "core(0, " + what + ") open", x.core(0, what), owns[what]);
        }
        x.turn(1);
        x.begin(3, 2, 1, 5);
        fetch(x, 1, 0);
        x.store(0, 3, 34);
        x.turn(1);
        x.read(1, 3);
        x.turn(3);
        int[] sent = {0, 1, 3, 3, 0, 3};
        for (int what = 0; what < sent.length; what++) {
            due(18, "core(1, " + what + ") sent away", x.core(1, what), sent[what]);
        }
        x.turn(2);
        int[] opened = {0, 1, 3, 5, 1, 4};
        for (int what = 0; what < opened.length; what++) {
            due(18, "core(1, " + what + ") open", x.core(1, what), opened[what]);
        }
        x.turn(1);
        int[] ended = {34, 0, NONE, NONE, NONE, NONE};
        for (int what = 0; what < ended.length; what++) {
            due(18, "core(1, " + what + ") ended", x.core(1, what), ended[what]);
        }
        x.store(1, 3, 1);
        due(18, "a rise is a store", x.core(1, 1), 2);
        due(18, "it waits", x.core(1, 4), 0);
        x.turn(1);
        due(18, "a store leaves the last value", x.core(1, 0), 34);
        int[][] bad = {{-1, 0}, {3, 0}, {0, -1}, {0, 6}, {LOW, HIGH}};
        for (int[] b : bad) {
            due(18, "core, a bad number", x.core(b[0], b[1]), BAD);
        }
    }

    private static void waitingAndOpen() {
        SplitWatch x = made(3, 2, 3, 9);
        int[][] bad = {{-2, 0}, {LOW, 0}, {0, -1}, {0, 5}, {-1, 5}, {9, -1}};
        for (int[] b : bad) {
            due(19, "waiting, a bad number", x.waiting(b[0], b[1]), BAD);
            due(20, "open, a bad number", x.open(b[0], b[1]), BAD);
        }
        due(19, "none", x.waiting(0, 0), NONE);
        due(20, "none", x.open(0, 0), NONE);
        own(x, 2, 6, 66);
        fetch(x, 0, 5);
        fetch(x, 1, 5);
        x.store(1, 5, 1);
        x.drop(2, 6);
        x.read(0, 7);
        x.store(2, 4, 2);
        due(19, "all kinds", waitsOf(x), "1U5@3+0 2B6@4+0 0R7@5+0 2O4@6+0");
        due(19, "not so many", x.waiting(4, 0), NONE);
        due(19, "not so many", x.waiting(HIGH, 0), NONE);
        due(19, "how many, by each", x.waiting(-1, 4), 4);
        due(19, "the rise", x.turn(1), 1);
        due(19, "the others", waitsOf(x), "2B6@4+0 0R7@5+0 2O4@6+0");
        x.turn(3);
        due(19, "none", waitsOf(x), "");
        due(20, "both", opensOf(x), "0R7@72=2 2O4@73=3");
        due(20, "not so many", x.open(2, 0), NONE);
        due(20, "not so many", x.open(HIGH, 0), NONE);
        due(20, "how many, by each", x.open(-1, 4), 2);
        x.read(1, 7);
        x.turn(1);
        due(19, "a new place", waitsOf(x), "1R7@8+1");
        x.turn(6);
        due(20, "not yet", opensOf(x), "0R7@72=2 2O4@73=3");
        x.turn(1);
        due(20, "the next one in the same turn", opensOf(x), "2O4@73=3 1R7@75=1");
    }

    private static void day() {
        SplitWatch x = made(2, 1, 1, 1);
        int[][] bad = {{-1, 1}, {10000, 1}, {0, 0}, {0, 41}, {LOW, 1}, {0, HIGH}};
        for (int[] b : bad) {
            due(21, "day, a bad number", x.day(b[0], b[1]), BAD);
        }
        due(21, "nothing changes by BAD", x.count(4) + x.waiting(-1, 0), 0);
        // z 0: x is 1, the draw 1: a read of line 0 by core 0.
        due(21, "day(0, 1)", x.day(0, 1), 1);
        due(21, "a read", waitsOf(x), "0R0@0+0");
        due(21, "again: it has an op", x.day(0, 1), 0);
        // z 9998: the draws are 8482 and 65501: a store of 16 to line 4 by core 2, a read of line 7 by core 1.
        x = made(3, 2, 1, 3);
        due(21, "day(9998, 2)", x.day(9998, 2), 2);
        due(21, "a store and a read", waitsOf(x), "2O4@0+0 1R7@1+0");
        x.turn(1);
        due(21, "the value of the store", x.truth(4), 16);
        // z 9999: a drop that can't be, three turns, a drop that can't be, a turn.
        x = made(3, 2, 1, 3);
        due(21, "day(9999, 6)", x.day(9999, 6), 4);
        due(21, "NOW", x.count(4), 4);
        // z 1: the draw is 22803: a drop of line 4 by core 0.
        x = made(3, 2, 1, 3);
        own(x, 0, 4, 55);
        due(21, "day(1, 1)", x.day(1, 1), 1);
        due(21, "a drop", bufferOf(x, 0), "4=55");
        x = new SplitWatch();
        due(21, "day(5, 40)", x.day(5, 40), 13);
        due(21, "day(6, 40)", x.day(6, 40), 19);
        due(21, "day(7, 40)", x.day(7, 40), 17);
        due(21, "letters of the order", x.order(-1), 63);
    }

    private static void count() {
        SplitWatch x = made(4, 3, 2, 5);
        type(x, "abc");
        int[] bad = {-1, 11, LOW, HIGH};
        for (int b : bad) {
            due(22, "count, a bad number", x.count(b), BAD);
        }
        own(x, 0, 0, 1);
        fetch(x, 1, 0);
        x.read(1, 0);
        x.store(0, 0, 2);
        x.store(1, 0, 3);
        x.turn(1);
        x.read(2, 0);
        x.turn(9);
        x.read(3, 0);
        x.store(2, 7, 7);
        x.turn(2);
        int[] counts = {4, 3, 2, 5, 52, 7, 1, 1, 6, 4, 3};
        for (int what = 0; what < counts.length; what++) {
            due(22, "count(" + what + ")", x.count(what), counts[what]);
        }
    }

    private static void constants() {
        due(1, "BAD", SplitWatch.BAD, BAD);
        due(1, "NO", SplitWatch.NO, NO);
        due(1, "FULL", SplitWatch.FULL, FULL);
        due(1, "NONE", SplitWatch.NONE, NONE);
        due(1, "WAITS", SplitWatch.WAITS, WAITS);
    }

    public static void main(String[] args) {
        constants();
        newObject();
        begin();
        read();
        store();
        drop();
        turnsAndAnswers();
        readsAndOwns();
        buffers();
        rises();
        sentAway();
        write();
        wipe();
        fault();
        play();
        order();
        word();
        cached();
        buffered();
        memoryAndTruth();
        core();
        waitingAndOpen();
        day();
        count();
        finish();
    }
}
