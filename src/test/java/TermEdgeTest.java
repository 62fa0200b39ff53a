/** The edges that 'Terms' names for cores, caches, buffers and turns: each sentence has its own method. */
public final class TermEdgeTest extends Bench {
    /** Lines 0, 1, .. of core 0 are changed, line l by value 10 + l; all is at rest. */
    private static SplitWatch changed(int k, int lines) {
        SplitWatch x = made(4, k, 1, 1);
        for (int l = 0; l < lines; l++) {
            own(x, 0, l, 10 + l);
        }
        return x;
    }

    private static void valuesOfMemory() {
        sentence("MEMORY has a VALUE (0 to 9999) of each LINE");
        SplitWatch x = made(2, 1, 1, 1);
        for (int l = 0; l < 8; l++) {
            due("memory(" + l + ") at first", x.memory(l), 0);
        }
        int[] ends = {9999, 0};
        for (int l = 0; l < 8; l += 7) {
            for (int v : ends) {
                own(x, 0, l, v);
                x.drop(0, l);
                x.turn(1);
                due("the value came to line " + l, x.memory(l), v);
                fetch(x, 1, l);
                due("it is read from there", x.core(1, 0), v);
                x.drop(1, l);
            }
        }
    }

    private static void linesOfACache() {
        sentence("A CACHE of each CORE has K LINES (1 to 4) at most");
        String[] filled = {"0a=0", "0a=0 1a=0", "0a=0 1a=0 2a=0", "0a=0 1a=0 2a=0 3a=0"};
        String[] onceMore = {"4a=0", "1a=0 4a=0", "1a=0 2a=0 4a=0", "1a=0 2a=0 3a=0 4a=0"};
        for (int k = 1; k <= 4; k++) {
            SplitWatch x = made(2, k, 1, 1);
            for (int l = 0; l < k; l++) {
                fetch(x, 1, l);
            }
            due("K lines of " + k, cacheOf(x, 1), filled[k - 1]);
            fetch(x, 1, 4);
            due("a line more than " + k, cacheOf(x, 1), onceMore[k - 1]);
            due("the other cache", cacheOf(x, 0), "");
        }
    }

    private static void roomInACache() {
        sentence("FILLED with a LINE, a CACHE that has K LINES gives one up ahead");
        for (int k = 1; k <= 4; k++) {
            SplitWatch x = changed(k, k);
            x.drop(0, 0);
            x.turn(1);
            own(x, 0, 7, 17);
            due("one less than K: none is given up", x.count(5), k + 2);
            own(x, 0, 6, 16);
            due("K: one is given up", x.count(5), k + 4);
            due("by a back", orderOf(x).substring(orderOf(x).length() - 2, orderOf(x).length() - 1), "B");
            due("the cache has K still", cacheOf(x, 0).split(" ").length, k);
        }
    }

    private static void usedLongestAgo() {
        sentence("that which was USED longest ago; USED is a LINE of a CACHE by each READ, STORE, FILL of it there");
        SplitWatch x = made(2, 3, 1, 1);
        fetch(x, 0, 0, 1, 2);
        due("by each fill", cacheOf(x, 0), "0a=0 1a=0 2a=0");
        x.read(0, 0);
        due("by a read", cacheOf(x, 0), "1a=0 2a=0 0a=0");
        x.store(0, 1, 5);
        due("by a store to a line alone", cacheOf(x, 0), "2a=0 0a=0 1c=5");
        x.read(0, 2);
        x.store(0, 1, 6);
        due("by a store to a changed line", cacheOf(x, 0), "0a=0 2a=0 1c=6");
        x.drop(0, 1);
        x.read(0, 0);
        x.read(0, 1);
        due("by a fill from the buffer", cacheOf(x, 0), "2a=0 0a=0 1c=6");
        fetch(x, 1, 2);
        due("not by what others do", cacheOf(x, 0), "2s=0 0a=0 1c=6");
        x.store(0, 2, 7);
        x.turn(1);
        due("by a rise", cacheOf(x, 0), "0a=0 1c=6 2c=7");
        fetch(x, 0, 3);
        due("line 0 was used longest ago", cacheOf(x, 0), "1c=6 2c=7 3a=0");
    }

    private static void givenUp() {
        sentence("if that is CHANGED, it comes into the BUFFER, and a BACK of it is ASKED; else it is gone");
        SplitWatch x = made(2, 1, 1, 1);
        fetch(x, 0, 0, 1);
        due("a line alone is gone", x.waiting(-1, 0) + x.buffered(0, -1, 0) + x.cached(0, 0, 0), 0);
        fetch(x, 1, 1);
        fetch(x, 0, 2);
        due("a shared line is gone", cacheOf(x, 0), "2a=0");
        due("no back of either", orderOf(x), "0R0 0R1 1R1 0R2");
        due("the other still shares it", cacheOf(x, 1), "1s=0");
        x.store(0, 2, 22);
        x.store(0, 3, 33);
        x.turn(1);
        x.read(1, 7);
        x.turn(1);
        due("a changed line is in the buffer", bufferOf(x, 0), "2=22");
        due("its back waits", waitsOf(x), "0B2@6+0");
        due("memory has it not yet", x.memory(2), 0);
        x.turn(1);
        due("back", x.memory(2), 22);
        due("the buffer is empty", bufferOf(x, 0), "");
    }

    private static void linesOfABuffer() {
        sentence("A BUFFER of each CORE has 2 LINES at most");
        SplitWatch x = changed(4, 4);
        own(x, 1, 6, 16, 7, 17);
        due("the first", x.drop(0, 2), 3);
        due("the second, just inside", x.drop(0, 0), 3);
        due("the third, just outside", x.drop(0, 3), FULL);
        due("again", x.drop(0, 1), FULL);
        due("both, as they came", bufferOf(x, 0), "2=12 0=10");
        due("another core has a buffer of its own", x.drop(1, 7), 3);
        due("of 2, too", x.drop(1, 6), 3);
        due("both, as they came", bufferOf(x, 1), "7=17 6=16");
        x.turn(1);
        due("room again", x.drop(0, 3), 3);
        due("behind what is there", bufferOf(x, 0), "0=10 3=13");
        due("full again", x.drop(0, 1), FULL);
        x.turn(1);
        due("room by the next back", x.drop(0, 1), 3);
        due("behind what is there", bufferOf(x, 0), "3=13 1=11");
    }

    private static void fullBufferAndOwnLine() {
        sentence("If it is in the CORE's own BUFFER, it goes from there (with its BACK) and the CACHE is FILLED with it, CHANGED");
        SplitWatch x = changed(2, 2);
        x.drop(0, 0);
        x.drop(0, 1);
        due("the second of a full buffer", x.read(0, 1), 11);
        due("the first stays", bufferOf(x, 0), "0=10");
        due("with its back", waitsOf(x), "0B0@2+0");
        due("the first, too", x.store(0, 0, 20), 0);
        due("none stays", bufferOf(x, 0) + waitsOf(x), "");
        due("both are there again", cacheOf(x, 0), "1c=11 0c=20");
        x.turn(9);
        due("nothing went back", orderOf(x), "0O0 0O1");
        due("they came by no answer", x.count(9), 2);
        x.drop(0, 1);
        due("in another core's buffer: asked", x.read(1, 1), WAITS);
    }

    private static void ownLineIntoAFullCache() {
        sentence("the CACHE is FILLED with it (a CACHE that has K LINES gives one up ahead)");
        SplitWatch x = changed(1, 1);
        x.store(0, 1, 11);
        x.read(1, 7);
        x.read(2, 6);
        x.turn(2);
        due("line 1 came, line 0 is on its way back", cacheOf(x, 0) + " " + bufferOf(x, 0), "1c=11 0=10");
        due("from the buffer into a full cache", x.read(0, 0), 10);
        due("they change places", cacheOf(x, 0) + " " + bufferOf(x, 0), "0c=10 1=11");
        due("and again", x.store(0, 1, 12), 0);
        due("they change places", cacheOf(x, 0) + " " + bufferOf(x, 0), "1c=12 0=10");
        due("a back for each time it was given up", waitsOf(x), "2R6@3+0 0B0@6+0");
    }

    private static void oneOp() {
        sentence("A CORE has one OP at most");
        SplitWatch x = made(2, 2, 1, 3);
        due("a read", x.read(0, 0), WAITS);
        due("while it waits", x.read(0, 1), NO);
        due("a store while it waits", x.store(0, 0, 1), NO);
        due("the other core", x.store(1, 0, 9), WAITS);
        x.turn(1);
        due("while it is open", x.read(0, 0), NO);
        x.turn(1);
        due("while it was sent away", x.store(1, 0, 8), NO);
        due("a read while a store waits", x.read(1, 0), NO);
        x.turn(2);
        due("when it has ended", x.read(0, 1), WAITS);
        due("the other still has its own", x.read(1, 1), NO);
        x.turn(9);
        due("both ended", x.read(1, 0), 9);
        x = changed(2, 2);
        x.drop(0, 0);
        x.read(0, 5);
        due("a line of the cache, too", x.read(0, 1), NO);
        due("a store to it, too", x.store(0, 1, 5), NO);
        due("a line of its own buffer, too", x.read(0, 0), NO);
        due("a store to it, too", x.store(0, 0, 5), NO);
        due("nothing of it was done", cacheOf(x, 0) + " " + bufferOf(x, 0), "1c=11 0=10");
    }

    private static void lastValue() {
        sentence("it ends with the LAST VALUE that it read (READ), or leaves it");
        SplitWatch x = made(2, 2, 1, 1);
        own(x, 0, 0, 9999);
        due("a store that came leaves it", x.core(0, 0), NONE);
        x.store(0, 0, 9998);
        due("a store at once leaves it", x.core(0, 0), NONE);
        x.read(0, 0);
        due("a read at once", x.core(0, 0), 9998);
        x.read(0, 1);
        x.turn(1);
        due("while it is open it is the earlier one", x.core(0, 0), 9998);
        x.turn(1);
        due("a read that came, of 0", x.core(0, 0), 0);
        fetch(x, 1, 0);
        x.store(0, 0, 5);
        x.turn(1);
        due("a rise leaves it", x.core(0, 0), 0);
        due("of another core", x.core(1, 0), 9998);
    }

    private static void stored() {
        sentence("A STORE: if it is ALONE or CHANGED there, at once; if it is SHARED, RISE is ASKED, else OWN is");
        SplitWatch x = made(3, 2, 1, 1);
        fetch(x, 0, 0);
        fetch(x, 1, 0);
        due("missing", x.store(2, 0, 1), WAITS);
        due("shared", x.store(0, 0, 2), WAITS);
        due("own and rise", waitsOf(x), "2O0@2+0 0U0@3+0");
        x.begin(2, 2, 1, 1);
        fetch(x, 0, 0);
        fetch(x, 1, 0);
        x.drop(1, 0);
        due("shared with none any more: still a rise", x.store(0, 0, 3), WAITS);
        due("a rise", waitsOf(x), "0U0@2+0");
        due("that is not beaten", x.turn(1) * 10 + x.count(7), 10);
        due("changed", x.store(0, 0, 4), 0);
        fetch(x, 0, 1);
        due("alone", x.store(0, 1, 5), 0);
        due("in another core's buffer", x.drop(0, 1), 3);
        due("own", x.store(1, 1, 6), WAITS);
        due("behind the back", waitsOf(x), "0B1@4+0 1O1@5+0");
    }

    private static void places() {
        sentence("What is ASKED waits with a PLACE (0, 1, .. as it came, over all) and has been SENT AWAY 0 times");
        SplitWatch x = made(3, 2, 1, 9);
        x.read(2, 3);
        due("the first", waitsOf(x), "2R3@0+0");
        x.read(3, 3);
        x.read(2, 4);
        x.drop(2, 3);
        x.store(0, 0, 7);
        due("refused calls take no place", waitsOf(x), "2R3@0+0 0O0@1+0");
        x.turn(20);
        x.store(0, 0, 8);
        x.read(2, 3);
        x.drop(0, 0);
        due("what is done at once takes none; a back takes one", waitsOf(x), "0B0@2+0");
        x.read(1, 0);
        due("over all", waitsOf(x), "0B0@2+0 1R0@3+0");
        x.begin(3, 2, 1, 9);
        x.read(1, 0);
        due("all as at first", waitsOf(x), "1R0@0+0");
        x.turn(1);
        x.read(2, 0);
        x.turn(3);
        due("sent away 3 times", waitsOf(x), "2R0@4+3");
        x.turn(20);
        x.read(2, 1);
        due("the next op of that core 0 times", waitsOf(x), "2R1@10+0");
    }

    private static void turns() {
        sentence("A TURN is 1 more (NOW, 0 at first), then an ANSWER, then an ADDRESS turn");
        SplitWatch x = made(2, 2, 1, 1);
        due("NOW at first", x.count(4), 0);
        x.turn(1);
        due("with nothing to do", x.count(4), 1);
        x.read(0, 0);
        x.read(1, 0);
        due("no answer ahead of the address turn", x.turn(1), 0);
        due("ordered at 2, due at 3", opensOf(x), "0R0@3=2");
        due("the answer", x.turn(1), 1);
        due("then the address turn for the same line", opensOf(x), "1R0@4=1");
        due("it was not sent away", x.count(6), 0);
        due("one in each address turn", x.count(5), 2);
    }

    private static void dueNow() {
        sentence("OPEN and DUE (its DUE is NOW or earlier); DUE is FAST TURNS later .., SLOW TURNS later else (1 to 9 each)");
        int[] ends = {1, 2, 8, 9};
        for (int slow : ends) {
            SplitWatch x = made(2, 2, 10 - slow, slow);
            x.read(0, 0);
            x.turn(1);
            due("slow by " + slow, x.open(0, 3), 1 + slow);
            due("a turn early", slow == 1 ? 0 : x.turn(slow - 1), 0);
            due("it is open", x.open(-1, 0), 1);
            due("at its turn", x.turn(1), 1);
            due("open no more", x.open(-1, 0), 0);
            due("NOW is its due", x.count(4), 1 + slow);
        }
        for (int fast : ends) {
            SplitWatch x = made(2, 2, fast, 10 - fast);
            own(x, 0, 0, 5);
            x.read(1, 0);
            x.turn(1);
            due("fast by " + fast, x.open(0, 3), 21 + fast);
            due("a turn early", fast == 1 ? 0 : x.turn(fast - 1), 0);
            due("at its turn", x.turn(1), 1);
        }
    }

    private static void oneAnswer() {
        sentence("that which had the earliest ADDRESS turn (One at most in a TURN.)");
        SplitWatch x = made(4, 2, 1, 3);
        own(x, 3, 2, 9);
        x.read(0, 0);
        x.read(1, 1);
        x.read(2, 2);
        due("none is due", x.turn(3), 0);
        due("two slow ones and a fast one", opensOf(x), "0R0@24=2 1R1@25=2 2R2@24=1");
        due("one of the two that are due", x.turn(1), 1);
        due("the earlier one", opensOf(x), "1R1@25=2 2R2@24=1");
        due("one", x.turn(1), 1);
        due("by the address turn, not by due", opensOf(x), "2R2@24=1");
        due("due two turns ago", x.turn(1), 1);
        due("none is left", x.turn(1), 0);
        due("answers", x.count(9), 4);
        x = made(3, 2, 1, 2);
        own(x, 2, 1, 9);
        x.read(0, 0);
        x.store(1, 1, 5);
        x.turn(2);
        due("a read and an own, due at once", opensOf(x), "0R0@23=2 1O1@23=3");
        due("one", x.turn(1), 1);
        due("the own is the later one", opensOf(x), "1O1@23=3");
    }

    /** Core 1's read of line 0 was sent away so often, core 2's of line 5 has a lower place; the next turn frees line 0. */
    private static SplitWatch sentAway(int times) {
        SplitWatch x = made(4, 2, 1, times + 1);
        x.read(0, 0);
        x.turn(1);
        x.read(1, 0);
        if (times > 1) {
            x.turn(times - 1);
        }
        x.read(2, 5);
        x.turn(1);
        due("sent away " + times + " times", waitsOf(x), "2R5@" + (times + 1) + "+0 1R0@" + (times + 2) + "+" + times);
        return x;
    }

    private static void threeTimes() {
        sentence("what was SENT AWAY 3 times or more and whose LINE is not OPEN ahead of others");
        for (int times = 1; times <= 6; times++) {
            SplitWatch x = sentAway(times);
            due("line 0 is free", x.turn(1), 1);
            due("after " + times + " times", orderOf(x), times >= 3 ? "0R0 1R0" : "0R0 2R5");
            x.turn(1);
            due("then the other", orderOf(x), times >= 3 ? "0R0 1R0 2R5" : "0R0 2R5 1R0");
        }
        sentence("and whose LINE is not OPEN");
        SplitWatch x = made(4, 2, 1, 9);
        x.read(0, 0);
        x.turn(1);
        x.read(1, 0);
        x.turn(7);
        x.read(2, 5);
        x.turn(1);
        due("sent away 8 times, line 0 is open", waitsOf(x), "2R5@9+0 1R0@10+8");
        x = made(4, 2, 1, 9);
        x.read(0, 0);
        x.turn(1);
        x.read(1, 0);
        x.turn(4);
        x.read(2, 5);
        x.read(3, 6);
        x.turn(2);
        due("not ahead while line 0 is open", orderOf(x), "0R0 2R5");
    }

    private static void lowestPlace() {
        sentence("of several that of the lowest PLACE");
        SplitWatch x = made(4, 2, 1, 9);
        x.read(0, 0);
        x.turn(1);
        x.read(2, 0);
        x.read(1, 0);
        x.read(3, 0);
        x.turn(8);
        due("two of them 3 times", waitsOf(x), "3R0@9+2 2R0@10+3 1R0@11+3");
        x.turn(1);
        due("of 3 times the lowest place", orderOf(x), "0R0 2R0");
        x = made(4, 2, 1, 9);
        x.read(3, 7);
        x.read(1, 6);
        x.read(2, 5);
        x.turn(3);
        due("of those never sent away, too", orderOf(x), "3R7 1R6 2R5");
    }

    private static void aheadOfABack() {
        sentence("ahead of others (a BACK, too)");
        SplitWatch x = made(3, 2, 1, 4);
        own(x, 2, 7, 17);
        x.read(0, 0);
        x.turn(1);
        x.read(1, 0);
        x.turn(2);
        x.drop(2, 7);
        x.turn(1);
        due("the back has the lower place", waitsOf(x), "2B7@5+0 1R0@6+3");
        x.turn(1);
        due("sent away 3 times goes ahead of it", orderOf(x), "2O7 0R0 1R0");
    }

    private static void newPlace() {
        sentence("If its LINE is OPEN, it is SENT AWAY: once more, and has a new PLACE behind all");
        SplitWatch x = made(3, 2, 1, 9);
        x.store(0, 7, 1);
        x.turn(1);
        x.read(1, 7);
        x.turn(1);
        due("alone it has a new place, too", waitsOf(x), "1R7@2+1");
        x.store(2, 7, 3);
        x.turn(1);
        due("behind all", waitsOf(x), "2O7@3+0 1R7@4+2");
        x.turn(1);
        due("each once more", waitsOf(x), "1R7@4+2 2O7@5+1");
        due("in all", x.count(6), 3);
        due("of core 1", x.core(1, 5), 2);
        due("none of it is ordered", orderOf(x), "0O7");
        x.turn(5);
        due("until line 7 is free no more", x.count(6), 8);
        due("the answer frees it", x.turn(1), 1);
        due("not sent away any more", x.count(6), 8);
    }

    private static void backs() {
        sentence("BACK: MEMORY has the VALUE, the LINE is in the BUFFER no more");
        SplitWatch x = changed(2, 2);
        x.drop(0, 1);
        x.drop(0, 0);
        due("ahead of it", x.memory(1) + x.memory(0), 0);
        x.turn(1);
        due("the first", x.memory(1), 11);
        due("not the second", x.memory(0), 0);
        due("the second is left", bufferOf(x, 0), "0=10");
        due("a back ends no op", x.turn(1), 0);
        due("the second", x.memory(0), 10);
        due("none is left", bufferOf(x, 0) + waitsOf(x), "");
        due("ops that ended", x.count(8), 2);
    }

    private static void rises() {
        sentence("RISE: if the LINE is still SHARED in its CACHE, others have it MISSING then; else it is BEATEN, and is OWN in its stead");
        SplitWatch x = made(4, 2, 1, 2);
        fetch(x, 0, 0);
        fetch(x, 1, 0);
        fetch(x, 2, 0);
        fetch(x, 3, 0);
        x.store(3, 0, 3);
        x.store(1, 0, 1);
        x.store(2, 0, 2);
        due("still shared", x.turn(1), 1);
        due("of four one has it", cacheOf(x, 0) + cacheOf(x, 1) + cacheOf(x, 2) + cacheOf(x, 3), "0c=3");
        due("none is beaten", x.count(7), 0);
        due("the next one does not end at once", x.turn(1), 0);
        due("one is beaten", x.count(7), 1);
        due("it is own, fast from the changed line", opensOf(x), "1O0@83=3");
        due("the second is beaten when line 0 is free", x.turn(1) * 10 + x.count(7), 12);
        due("in the order they came", orderOf(x), "0R0 1R0 2R0 3R0 3U0 1W0 2W0");
        x.turn(5);
        due("the last one has it", cacheOf(x, 2), "0c=2");

        sentence("(A LINE can be given up while its RISE waits: it is BEATEN then, too.)");
        x = made(2, 1, 1, 2);
        fetch(x, 0, 0);
        fetch(x, 1, 0);
        x.store(0, 0, 5);
        x.drop(0, 0);
        due("it waits as a rise", waitsOf(x), "0U0@2+0");
        x.turn(1);
        due("beaten", orderOf(x) + " " + x.count(7), "0R0 1R0 0W0 1");
        due("from shared or memory: slow", opensOf(x), "0O0@43=3");
        due("the other loses it", cacheOf(x, 1), "");
        x.turn(2);
        due("it has the value of the store", cacheOf(x, 0), "0c=5");
    }

    private static void sources() {
        sentence("FAST, if it is from a CACHE where it is ALONE or CHANGED or from a BUFFER, SLOW else");
        for (int kind = 0; kind < 2; kind++) {
            String[] froms = {"memory", "shared", "alone", "changed", "buffer"};
            boolean[] quick = {false, false, true, true, true};
            for (int from = 0; from < froms.length; from++) {
                SplitWatch x = made(3, 2, 3, 7);
                if (from >= 3) {
                    own(x, 1, 0, 5);
                } else if (from > 0) {
                    fetch(x, 1, 0);
                }
                if (from == 1) {
                    fetch(x, 2, 0);
                }
                int start = x.count(4) + 1;
                int waits = kind == 0 ? x.read(0, 0) : x.store(0, 0, 6);
                if (from == 4) {
                    x.drop(1, 0);
                }
                due("asked", waits, WAITS);
                x.turn(1);
                due("from " + froms[from], x.open(0, 3), start + (quick[from] ? 3 : 7));
                boolean otherHasIt = from >= 1 && from <= 3;
                due("from " + froms[from] + " it is to be", x.open(0, 4), kind == 1 ? 3 : otherHasIt ? 1 : 2);
                due("memory", x.memory(0), kind == 0 && from >= 3 ? 5 : 0);
                due("the other cache", x.cached(1, 0, 0), kind == 0 && otherHasIt ? 1 : 0);
                due("its buffer and its back", x.buffered(1, -1, 0) + x.waiting(-1, 0), 0);
                x.turn(7);
                due("the value", x.cached(0, 0, 1), kind == 1 ? 6 : from >= 3 ? 5 : 0);
            }
        }
    }

    private static void sharedOrAlone() {
        sentence("it is to be SHARED, if another CACHE has it, else ALONE");
        SplitWatch x = made(2, 2, 1, 3);
        fetch(x, 0, 0);
        x.read(1, 0);
        x.drop(0, 0);
        x.turn(1);
        due("given up ahead of the address turn", opensOf(x), "1R0@24=2");
        x.turn(3);
        due("alone", cacheOf(x, 1), "0a=0");
        x.read(0, 0);
        x.turn(1);
        x.drop(1, 0);
        due("given up behind it", opensOf(x), "0R0@26=1");
        x.turn(1);
        due("as it was to be", cacheOf(x, 0), "0s=0");
        x.read(1, 0);
        x.turn(1);
        due("one that has it shared is enough", opensOf(x), "1R0@30=1");
    }

    private static void truths() {
        sentence("The TRUTH: if OPEN by OWN, the VALUE of that STORE; else where it is ALONE or CHANGED, else in a BUFFER, else in MEMORY");
        SplitWatch x = made(2, 2, 2, 2);
        x.store(0, 7, 9999);
        due("it waits: not yet", x.truth(7), 0);
        x.turn(1);
        due("open by own", x.truth(7), 9999);
        x.turn(2);
        due("changed", x.truth(7), 9999);
        x.drop(0, 7);
        due("in a buffer", x.truth(7), 9999);
        due("memory is behind", x.memory(7), 0);
        x.turn(1);
        due("in memory", x.truth(7), 9999);
        x.store(0, 7, 0);
        x.turn(1);
        due("open by own, of 0", x.truth(7), 0);
        x.turn(2);
        x.read(1, 7);
        x.turn(1);
        due("open by read", x.truth(7), 0);
        x.turn(2);
        x.store(1, 7, 4);
        due("a rise that waits: not yet", x.truth(7), 0);
        x.turn(1);
        due("a rise that is ordered", x.truth(7), 4);
        x.store(1, 7, 5);
        due("at once", x.truth(7), 5);
        due("other lines are as they were", x.truth(6) + x.truth(0), 0);
    }

    private static void mostThatWait() {
        sentence("A CORE has one OP at most, a BUFFER 2 LINES: 4 CORES have 12 that wait at most, and 4 that are OPEN");
        SplitWatch x = made(4, 2, 9, 9);
        for (int c = 0; c < 4; c++) {
            own(x, c, 2 * c, 100 + c, 2 * c + 1, 200 + c);
        }
        for (int c = 0; c < 4; c++) {
            x.drop(c, 2 * c);
            x.drop(c, 2 * c + 1);
            x.read(c, (2 * c + 2) % 8);
        }
        due("all that can wait", waitsOf(x), "0B0@8+0 0B1@9+0 0R2@10+0 1B2@11+0 1B3@12+0 1R4@13+0 2B4@14+0 2B5@15+0 2R6@16+0"
                + " 3B6@17+0 3B7@18+0 3R0@19+0");
        due("the twelfth", x.waiting(11, 2), 0);
        due("no thirteenth", x.waiting(12, 2), NONE);
        x.turn(6);
        due("reads take lines 2 and 4 from the buffers, and their backs", waitsOf(x), "2R6@16+0 3B6@17+0 3B7@18+0 3R0@19+0");
        x.turn(3);
        due("all that can be open", opensOf(x), "0R2@172=2 1R4@174=2 2R6@176=2 3R0@178=2");
        due("the fourth", x.open(3, 2), 0);
        due("no fifth", x.open(4, 2), NONE);
        due("all end", x.turn(9), 4);
        due("their values", coreOf(x, 0).split(" ")[0] + coreOf(x, 1).split(" ")[0] + coreOf(x, 2).split(" ")[0]
                + coreOf(x, 3).split(" ")[0], "101102103100");
    }

    public static void main(String[] args) {
        valuesOfMemory();
        linesOfACache();
        roomInACache();
        usedLongestAgo();
        givenUp();
        linesOfABuffer();
        fullBufferAndOwnLine();
        ownLineIntoAFullCache();
        oneOp();
        lastValue();
        stored();
        places();
        turns();
        dueNow();
        oneAnswer();
        threeTimes();
        lowestPlace();
        aheadOfABack();
        newPlace();
        backs();
        rises();
        sources();
        sharedOrAlone();
        truths();
        mostThatWait();
        finish();
    }
}
