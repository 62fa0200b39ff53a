import java.util.ArrayList;
import java.util.List;
import java.util.function.Consumer;

/** The edges of texts: THE TEXT and its commands, THE LINE OF ORDER, THE WORD. */
public final class TextEdgeTest extends Bench {
    private static Consumer<SplitWatch> typed(String text) {
        return x -> type(x, text);
    }

    /** The text has a fault at this place, here and behind commands that are right; none of it is played. */
    private static void faulty(String command) {
        due("fault of '" + command + "'", made(typed(command)).fault(), 0);
        due("fault of '" + command + "', the second", made(typed("turn 1;" + command)).fault(), 7);
        due("fault of '" + command + "', the first of two", made(typed(command + "turn 1;")).fault(), 0);
        refused("play of '" + command + "'", typed("turn 1;read 0 0;" + command), SplitWatch::play, NO);
    }

    /** The text is one command, and is played as by the call. */
    private static void right(String command, Consumer<SplitWatch> call) {
        SplitWatch x = made(typed(command));
        due("fault of '" + command + "'", x.fault(), NONE);
        due("fault of '" + command + "', the second", made(typed("turn 1;" + command)).fault(), NONE);
        SplitWatch y = made(typed(command));
        call.accept(y);
        x.play();
        due("'" + command + "' is played", stateOf(x), stateOf(y));
    }

    private static void letters() {
        sentence("A letter (32 to 126, as in ASCII) comes behind THE TEXT: how long it is. BAD; FULL (200 at most)");
        SplitWatch x = new SplitWatch();
        due("the lowest letter", x.write(32), 1);
        due("the highest letter", x.write(126), 2);
        due("just below", x.write(31), BAD);
        due("just above", x.write(127), BAD);
        due("a letter by its low 16 bits", x.write(65536 + 'a'), BAD);
        due("by its low 8 bits", x.write(256 + 'a'), BAD);
        due("nothing came", x.count(10), 2);
        for (int i = 3; i <= 199; i++) {
            x.write('a');
        }
        due("the 200th", x.write('a'), 200);
        due("the 201st", x.write('a'), FULL);
        due("again", x.write(' '), FULL);
        due("how long it is", x.count(10), 200);
        Consumer<SplitWatch> full = b -> type(b, "turn 12;".repeat(25));
        refused("a letter more", full, b -> b.write('x'), FULL);
        refused("a letter more, the one that stood first", full, b -> b.write('t'), FULL);
        refused("BAD ahead of FULL", full, b -> b.write(127), BAD);
        refused("BAD ahead of FULL", full, b -> b.write(31), BAD);
        refused("BAD, one place is left", typed("turn 12;".repeat(24) + "turn 1;"), b -> b.write(31), BAD);
    }

    private static void wipe() {
        sentence("THE TEXT is empty: how long it was");
        SplitWatch x = new SplitWatch();
        due("empty", x.wipe(), 0);
        type(x, "t");
        due("one letter", x.wipe(), 1);
        due("again", x.wipe(), 0);
        type(x, "turn 12;".repeat(25));
        due("full", x.wipe(), 200);
        due("no longer full", x.write(';'), 1);
        due("what stood there is gone", x.fault(), 0);
        due("only its one letter", x.wipe(), 1);
        due("no fault", x.fault(), NONE);
        due("no command", x.play(), NO);
        SplitWatch b = made(Bench::busy);
        SplitWatch without = made(Bench::busy);
        due("of a busy one", b.wipe(), 37);
        due("nothing else changes", stateOf(b), stateOf(without).replace(" 37; fault", " 0; fault"));
    }

    private static void longTexts() {
        sentence("A TEXT is letters (200 at most), COMMANDS one behind the other");
        SplitWatch x = made(typed("turn 99;".repeat(25)));
        due("a text that is full", x.fault(), NONE);
        due("its commands", x.play(), 25);
        due("all of them", x.count(4), 25 * 99);
        x = made(typed("turn 1;".repeat(28)));
        due("196 letters", x.play(), 28);
        type(x, "turn");
        due("200 letters, the last command is cut", x.fault(), 196);
        due("none is played", x.play() + x.count(4), NO + 28);
        x = made(typed("turn 99;".repeat(24) + "read 0 ;"));
        due("the last of 25", x.fault(), 192);
        x = made(typed("turn 99;".repeat(24) + "turn 1;;"));
        due("the 200th letter", x.fault(), 199);
        x = made(typed("a".repeat(200)));
        due("a word of 200 letters", x.fault(), 0);
        x = made(typed("turn " + "1".repeat(195)));
        due("a number of 195 figures", x.fault(), 0);
        x = made(typed(";".repeat(200)));
        due("200 ends", x.fault(), 0);
        x = made(typed(" ".repeat(200)));
        due("200 blanks", x.fault(), 0);
    }

    private static void words() {
        sentence("no such word");
        String[] words = {"", "r", "rea", "reads", "Read", "READ", "reed", "read0", "t", "tur", "turns", "Turn", "store ", "stor",
            "stores", "Store", "drops", "dro", "Drop", "begin", "write", "wipe", "play", "fault", "readread", "{ead", "`ead",
            "bead", "read{", "rezd", "reaz", "burn", "tern", "turm", "ttore", "score", "storz", "crop", "dzop", "dror"};
        for (String word : words) {
            faulty(word + " 0 0;");
            faulty(word + " 1;");
            faulty(word + " 0 0 1;");
            faulty(word + ";");
        }
    }

    private static void howManyNumbers() {
        sentence("not as many numbers: read C L, store C L V, drop C L, turn N");
        String[] names = {"read", "store", "drop", "turn"};
        int[] wanted = {2, 3, 2, 1};
        for (int w = 0; w < names.length; w++) {
            for (int n = 0; n <= 5; n++) {
                String command = names[w] + " 1".repeat(n) + ";";
                if (n == wanted[w]) {
                    due("'" + command + "'", made(typed(command)).fault(), NONE);
                } else {
                    faulty(command);
                }
            }
        }
    }

    private static void figures() {
        sentence("numbers (one to four figures)");
        right("turn 1;", x -> x.turn(1));
        right("turn 01;", x -> x.turn(1));
        right("turn 0001;", x -> x.turn(1));
        faulty("turn 00001;");
        faulty("turn ;");
        right("read 2 7;", x -> x.read(2, 7));
        right("read 0002 0007;", x -> x.read(2, 7));
        faulty("read 00002 7;");
        faulty("read 2 00007;");
        faulty("read  7;");
        faulty("read 2 ;");
        right("store 0 0 9999;", x -> x.store(0, 0, 9999));
        right("store 0 0 0;", x -> x.store(0, 0, 0));
        right("store 0 0 0000;", x -> x.store(0, 0, 0));
        right("store 0 0 0010;", x -> x.store(0, 0, 10));
        faulty("store 0 0 00010;");
        faulty("store 0 0 99999;");
        faulty("store 0 0 ;");
        String[] none = {"-1", "+1", "1.", "0x1", "a", "1a", "a1", "/", ":", "1/", "1:", "1,"};
        for (String n : none) {
            faulty("turn " + n + ";");
            faulty("read " + n + " 1;");
            faulty("read 1 " + n + ";");
            faulty("store 1 1 " + n + ";");
        }
    }

    private static void blanks() {
        sentence("one blank ahead of each, a ; behind them");
        String[] wrong = {"turn1;", "turn  1;", "turn 1 ;", " turn 1;", "turn 1", "turn 1 ", "turn 1:", "turn_1;", "turn\"1;",
            "read0 0;", "read 00;", "read  0 0;", "read 0  0;", "read 0 0 ;", "read 0 0", "read 0;0;", "read;0 0;", "read 0,0;",
            "store 0 0  0;", "store 0  0 0;", "store  0 0 0;", "store 0 0 0 ;", "store 0 0 0", "drop 0 0 ", "drop 0 0", "drop 0 0,"};
        for (String command : wrong) {
            due("fault of '" + command + "'", made(typed(command)).fault(), 0);
            due("fault of '" + command + "', the second", made(typed("read 2 7;" + command)).fault(), 9);
            refused("play of '" + command + "'", typed("turn 1;" + command), SplitWatch::play, NO);
        }
        due("a blank between two", made(typed("turn 1; turn 1;")).fault(), 7);
        due("two ends between two", made(typed("turn 1;;turn 1;")).fault(), 7);
        due("a blank at the end", made(typed("turn 1;turn 1; ")).fault(), 14);
        due("two as one", made(typed("turn 1turn 1;")).fault(), 0);
    }

    private static void numbersTold() {
        sentence("one that is none that is told: by the CORE, the LINE, a VALUE, 1 to 99 TURNS");
        right("turn 99;", x -> x.turn(99));
        faulty("turn 0;");
        faulty("turn 0000;");
        faulty("turn 100;");
        faulty("turn 9999;");
        String[] names = {"read %d %d;", "store %d %d 1;", "drop %d %d;"};
        for (String name : names) {
            int[] lines = {0, 7, 8, 9, 10, 9999};
            for (int l : lines) {
                due(name + " line " + l, made(typed(String.format(name, 0, l))).fault(), l < 8 ? NONE : 0);
            }
            for (int c = 2; c <= 4; c++) {
                int[] cores = {0, c - 1, c, c + 1, 9, 10, 9999};
                for (int core : cores) {
                    SplitWatch x = made(c, 1, 1, 1);
                    type(x, "turn 1;" + String.format(name, core, 7));
                    due(name + " core " + core + " of " + c, x.fault(), core < c ? NONE : 7);
                }
            }
        }
        sentence("CORES: such as there are");
        SplitWatch x = made(2, 1, 1, 1);
        type(x, "turn 1;read 2 0;read 3 0;");
        due("two cores", x.fault(), 7);
        x.begin(3, 1, 1, 1);
        due("three", x.fault(), 16);
        due("three", x.play(), NO);
        x.begin(4, 1, 1, 1);
        due("four", x.fault(), NONE);
        due("four", x.play(), 3);
        due("core 3 has its op", x.core(3, 1), 1);
    }

    private static void firstFault() {
        sentence("FAULT: the place of the first letter of the first COMMAND that is not so. NONE");
        due("an empty text", new SplitWatch().fault(), NONE);
        due("of two the first", made(typed("turn 1;turn 0;turn 0;")).fault(), 7);
        due("of two the first", made(typed("turn 0;turn 1;x")).fault(), 0);
        due("not the letter that is wrong", made(typed("turn 1;store 0 0 1;store 0 8 1;")).fault(), 19);
        refused("fault()", typed("turn 1;x"), SplitWatch::fault, 7);
        refused("fault() of a busy one", Bench::busy, SplitWatch::fault, NONE);
    }

    private static void play() {
        sentence("PLAYED: how many COMMANDS were not refused. NO: there is a FAULT, or no COMMAND");
        refused("no command", x -> { }, SplitWatch::play, NO);
        refused("one fault, the last", typed("turn 1;store 0 0 5;turn 9;drop 0 0;t"), SplitWatch::play, NO);
        refused("one fault, the first", typed(";turn 1;"), SplitWatch::play, NO);
        SplitWatch x = made(typed("drop 0 0;"));
        due("all are refused", x.play(), 0);
        due("nothing changed", stateOf(x), stateOf(made(typed("drop 0 0;"))));
        x = made(typed("read 0 0;"));
        due("WAITS is no refusal", x.play(), 1);
        due("NO is one", x.play(), 0);
        x.turn(9);
        due("a value is none", x.play(), 1);
        x = made(2, 4, 1, 1);
        own(x, 0, 0, 1, 1, 1, 2, 1);
        type(x, "drop 0 0;drop 0 1;drop 0 2;drop 0 1;drop 1 5;");
        due("FULL and NO are refusals", x.play(), 2);
        x = made(2, 4, 1, 1);
        own(x, 0, 0, 1, 1, 1, 2, 1);
        type(x, "drop 0 0;drop 0 1;drop 0 2;turn 1;drop 0 2;");
        due("in order: room by a turn", x.play(), 4);
        due("the text stays", x.count(10), 43);
        type(x, "store 0 7 9999;turn 9;store 0 7 0;read 0 7;");
        due("in order, as by the calls; four drops are refused", x.play(), 5);
        due("the last value", x.core(0, 0), 0);
    }

    /** So many reads ordered, each by core 0 of the next line; what is told of them, all. */
    private static List<String> ordered(SplitWatch x, int many) {
        List<String> all = new ArrayList<>();
        for (int i = 0; i < many; i++) {
            int l = i * 3 % 8;
            x.read(0, l);
            x.turn(2);
            x.drop(0, l);
            all.add("0R" + l);
        }
        return all;
    }

    private static void lastSixteen() {
        sentence("THE LINE OF ORDER is the text of the last 16 of THE ORDER, the earliest first, one blank between two");
        int[] sizes = {0, 1, 2, 15, 16, 17, 18, 31, 32, 33, 47, 48, 49, 64, 65};
        for (int size : sizes) {
            SplitWatch x = made(2, 1, 1, 1);
            List<String> all = ordered(x, size);
            String line = String.join(" ", all.subList(Math.max(0, size - 16), size));
            due("of " + size, orderOf(x), line);
            due("how many letters of " + size, x.order(-1), line.length());
            due("the one behind the last of " + size, x.order(line.length()), NONE);
            due("all of " + size, x.count(5), size);
            due("told of " + size, x.told(42, 42, 42), Math.min(size, 16));
        }
        SplitWatch x = made(2, 1, 1, 1);
        due("the first letter of none", x.order(0), NONE);
        ordered(x, 17);
        due("no more letters than 63", x.order(63), NONE);
        due("the last letter", x.order(62), '0');
        due("far behind", x.order(HIGH), NONE);
        due("below -1", x.order(-2), BAD);
        due("far below", x.order(LOW), BAD);
        due("the first of 17 is told no more", x.told('0', 'R', '0'), 2);
        x.begin(2, 1, 1, 1);
        due("none after begin", x.order(-1), 0);
        due("none is told", x.told(42, 42, 42), 0);
        due("no letter is left", x.order(0), NONE);
    }

    private static void kinds() {
        sentence("the CORE's figure, then R, O, U (RISE that was not BEATEN), W (OWN by a RISE that was BEATEN) or B, then the LINE's figure");
        SplitWatch x = made(4, 2, 1, 1);
        fetch(x, 3, 7);
        fetch(x, 0, 7);
        x.store(3, 7, 1);
        x.store(0, 7, 2);
        x.turn(9);
        x.drop(0, 7);
        x.turn(1);
        own(x, 2, 0, 5);
        due("each of them", orderOf(x), "3R7 0R7 3U7 0W7 0B7 2O0");
        char[] letters = {'R', 'O', 'U', 'W', 'B'};
        int[] many = {2, 1, 1, 1, 1};
        for (int i = 0; i < letters.length; i++) {
            due("told " + letters[i], x.told(42, letters[i], 42), many[i]);
        }
        due("small letters are others", x.told(42, 'r', 42), 0);
        due("sent away is not in the order", made(Bench::busy).order(-1), 15);
    }

    private static void told() {
        sentence("told by these three letters (as in ASCII, 32 to 126; 42 for each one). BAD");
        SplitWatch x = made(4, 2, 1, 1);
        fetch(x, 0, 0);
        fetch(x, 3, 7);
        fetch(x, 3, 0);
        due("all", x.told(42, 42, 42), 3);
        due("by the core alone", x.told('3', 42, 42), 2);
        due("by the line alone", x.told(42, 42, '0'), 2);
        due("by the kind alone", x.told(42, 'R', 42), 3);
        due("by all three", x.told('3', 'R', '7'), 1);
        due("by two", x.told('3', 42, '0'), 1);
        due("a number is no letter of a core", x.told(32, 42, 42), 0);
        due("just beside 42", x.told(41, 42, 42) + x.told(43, 42, 42) + x.told(42, 41, 42) + x.told(42, 43, 42), 0);
        due("just beside 42", x.told(42, 42, 41) + x.told(42, 42, 43), 0);
        due("the lowest letters", x.told(32, 32, 32), 0);
        due("the highest letters", x.told(126, 126, 126), 0);
        due("a blank is between two, not of one", x.told(42, 42, 32), 0);
        due("all three are none", x.told(31, 127, -42), BAD);
    }

    private static void spells(String word, SplitWatch x, int c, int l) {
        due("the word", wordOf(x, c, l), word);
        due("how many letters of " + word, x.word(c, l, -1), word.length());
        due("the first of " + word, x.word(c, l, 0), word.charAt(0));
        due("the last of " + word, x.word(c, l, word.length() - 1), word.charAt(word.length() - 1));
        due("behind the last of " + word, x.word(c, l, word.length()), NONE);
        due("far behind " + word, x.word(c, l, HIGH), NONE);
        due("below -1 of " + word, x.word(c, l, -2), BAD);
    }

    private static void word() {
        sentence("THE WORD: missing, shared, alone, changed; buffered, if it is MISSING there and in the CORE's BUFFER");
        SplitWatch x = made(2, 2, 1, 1);
        spells("missing", x, 0, 0);
        fetch(x, 0, 0);
        spells("alone", x, 0, 0);
        fetch(x, 1, 0);
        spells("shared", x, 0, 0);
        spells("shared", x, 1, 0);
        own(x, 1, 7, 3);
        spells("changed", x, 1, 7);
        x.drop(1, 7);
        spells("buffered", x, 1, 7);
        spells("missing", x, 0, 7);
        x.read(1, 7);
        spells("changed", x, 1, 7);
        x.drop(1, 7);
        x.turn(1);
        spells("missing", x, 1, 7);
        sentence("BAD (i below -1); NONE: not so many");
        due("BAD ahead of NONE, the core", x.word(2, 0, 99), BAD);
        due("BAD ahead of NONE, the line", x.word(0, 8, 99), BAD);
    }

    public static void main(String[] args) {
        letters();
        wipe();
        longTexts();
        words();
        howManyNumbers();
        figures();
        blanks();
        numbersTold();
        firstFault();
        play();
        lastSixteen();
        kinds();
        told();
        word();
        finish();
    }
}
