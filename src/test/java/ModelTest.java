import java.util.ArrayList;
import java.util.Arrays;
import java.util.Comparator;
import java.util.List;
import java.util.Random;
import java.util.regex.Matcher;
import java.util.regex.Pattern;

/**
 * Runs of random calls, at most 512 on one object, against a second reading of the document that holds
 * everything in lists and keeps buffers and backs apart. The same seeds always, so a fault can be run again.
 */
public final class ModelTest {
    private static final int BAD = -1, NO = -2, FULL = -3, NONE = -4, WAITS = -5;
    private static final int CALLS = 512;

    private static final class Line {
        final int line;
        int value;
        int state;

        Line(int line, int value, int state) {
            this.line = line;
            this.value = value;
            this.state = state;
        }
    }

    private static final class Req {
        int core;
        int kind;
        int line;
        int place;
        int sent;
        int due;
        int toBe;
        int value;
    }

    /** The rare things that a run must have met somewhere, or the runs prove little. */
    private static final String[] RARE = {"urgent ahead of a lower place", "beaten by another", "beaten by a drop",
        "read from a buffer", "own from a buffer", "taken back", "taken back, one given up", "buffer full", "two due at once",
        "to be shared, alone in the end", "rise sent away", "played", "refused in a play", "more than 16 ordered"};
    private static final int[] met = new int[RARE.length];

    private static final class Model {
        int cores, size, fast, slow, now, places, total, sentAway, beaten, ended, answers;
        int[] memory;
        /** Each cache with what was used longest ago first. */
        List<List<Line>> caches;
        List<List<Line>> buffers;
        /** Kind 1 READ, 2 STORE; line, value, since, as an array, or null. */
        int[][] ops;
        int[] last;
        List<Req> waits;
        List<Req> opens;
        List<String> order;
        String text = "";

        Model() {
            start(3, 2, 1, 3);
        }

        void start(int c, int k, int f, int s) {
            cores = c;
            size = k;
            fast = f;
            slow = s;
            now = places = total = sentAway = beaten = ended = answers = 0;
            memory = new int[8];
            caches = new ArrayList<>();
            buffers = new ArrayList<>();
            for (int i = 0; i < c; i++) {
                caches.add(new ArrayList<>());
                buffers.add(new ArrayList<>());
            }
            ops = new int[c][];
            last = new int[c];
            Arrays.fill(last, NONE);
            waits = new ArrayList<>();
            opens = new ArrayList<>();
            order = new ArrayList<>();
        }

        static Line find(List<Line> lines, int l) {
            return lines.stream().filter(x -> x.line == l).findFirst().orElse(null);
        }

        Req openOf(int l) {
            return opens.stream().filter(x -> x.line == l).findFirst().orElse(null);
        }

        int state(int c, int l) {
            Line line = find(caches.get(c), l);
            return line == null ? 0 : line.state;
        }

        void use(int c, Line line) {
            caches.get(c).remove(line);
            caches.get(c).add(line);
        }

        void ask(int c, int kind, int l) {
            Req r = new Req();
            r.core = c;
            r.kind = kind;
            r.line = l;
            r.place = places++;
            waits.add(r);
        }

        void unask(int c, int l) {
            waits.removeIf(x -> x.core == c && x.kind == 3 && x.line == l);
        }

        boolean fillable(int c) {
            List<Line> cache = caches.get(c);
            return cache.size() < size || cache.get(0).state != 3 || buffers.get(c).size() < 2;
        }

        void fill(int c, int l, int value, int state) {
            if (caches.get(c).size() == size) {
                away(c, caches.get(c).get(0));
            }
            caches.get(c).add(new Line(l, value, state));
        }

        void away(int c, Line line) {
            caches.get(c).remove(line);
            if (line.state == 3) {
                buffers.get(c).add(line);
                ask(c, 3, line.line);
            }
        }

        boolean ownBuffer(int c, int l) {
            Line line = find(buffers.get(c), l);
            if (line == null) {
                return false;
            }
            met[5]++;
            if (caches.get(c).size() == size) {
                met[6]++;
            }
            buffers.get(c).remove(line);
            unask(c, l);
            fill(c, l, line.value, 3);
            return true;
        }

        int read(int c, int l) {
            if (noCore(c) || noLine(l)) return BAD;
            if (ops[c] != null) return NO;
            ownBuffer(c, l);
            Line line = find(caches.get(c), l);
            if (line != null) {
                use(c, line);
                ended++;
                last[c] = line.value;
                return line.value;
            }
            ops[c] = new int[] {1, l, 0, now};
            ask(c, 0, l);
            return WAITS;
        }

        int store(int c, int l, int v) {
            if (noCore(c) || noLine(l) || v < 0 || v > 9999) return BAD;
            if (ops[c] != null) return NO;
            ownBuffer(c, l);
            Line line = find(caches.get(c), l);
            if (line != null && line.state >= 2) {
                use(c, line);
                line.value = v;
                line.state = 3;
                ended++;
                return 0;
            }
            ops[c] = new int[] {2, l, v, now};
            ask(c, line != null ? 2 : 1, l);
            return WAITS;
        }

        int drop(int c, int l) {
            if (noCore(c) || noLine(l)) return BAD;
            Line line = find(caches.get(c), l);
            if (line == null) return NO;
            if (line.state == 3 && buffers.get(c).size() == 2) {
                met[7]++;
                return FULL;
            }
            away(c, line);
            return line.state;
        }

        int turn(int n) {
            if (n < 1 || n > 99) return BAD;
            int before = ended;
            for (int i = 0; i < n; i++) {
                now++;
                answer();
                address();
            }
            return ended - before;
        }

        void answer() {
            if (opens.stream().filter(x -> x.due <= now).count() > 1) {
                met[8]++;
            }
            for (Req r : opens) {
                if (r.due <= now && fillable(r.core)) {
                    int value = r.kind == 0 ? r.value : ops[r.core][2];
                    boolean others = false;
                    for (int c = 0; c < cores; c++) {
                        others |= state(c, r.line) != 0;
                    }
                    if (r.toBe == 1 && !others) {
                        met[9]++;
                    }
                    fill(r.core, r.line, value, r.toBe);
                    if (r.kind == 0) {
                        last[r.core] = value;
                    }
                    ops[r.core] = null;
                    opens.remove(r);
                    ended++;
                    answers++;
                    return;
                }
            }
        }

        List<Req> sorted() {
            List<Req> rows = new ArrayList<>(waits);
            rows.sort(Comparator.<Req>comparingInt(x -> x.sent >= 3 && openOf(x.line) == null ? 0 : 1)
                    .thenComparingInt(x -> x.place));
            return rows;
        }

        void address() {
            if (waits.isEmpty()) {
                return;
            }
            Req r = sorted().get(0);
            if (waits.stream().anyMatch(x -> x.place < r.place)) {
                met[0]++;
            }
            if (openOf(r.line) != null) {
                r.sent++;
                r.place = places++;
                sentAway++;
                if (r.kind == 2) {
                    met[10]++;
                }
                return;
            }
            waits.remove(r);
            total++;
            if (total == 17) {
                met[13]++;
            }
            String letter = "ROUB".substring(r.kind, r.kind + 1);
            if (r.kind == 3) {
                Line line = find(buffers.get(r.core), r.line);
                memory[r.line] = line.value;
                buffers.get(r.core).remove(line);
            } else if (r.kind == 2 && state(r.core, r.line) == 1) {
                for (int c = 0; c < cores; c++) {
                    if (c != r.core) {
                        caches.get(c).removeIf(x -> x.line == r.line);
                    }
                }
                Line line = find(caches.get(r.core), r.line);
                use(r.core, line);
                line.value = ops[r.core][2];
                line.state = 3;
                ops[r.core] = null;
                ended++;
            } else {
                if (r.kind == 2) {
                    boolean another = false;
                    for (int c = 0; c < cores; c++) {
                        another |= state(c, r.line) >= 2;
                    }
                    met[another ? 1 : 2]++;
                    letter = "W";
                    r.kind = 1;
                    beaten++;
                }
                opens.add(r);
                supply(r);
            }
            order.add(r.core + letter + r.line);
        }

        void supply(Req r) {
            boolean quick = false;
            r.value = memory[r.line];
            for (int c = 0; c < cores; c++) {
                if (state(c, r.line) >= 2) {
                    r.value = find(caches.get(c), r.line).value;
                    quick = true;
                }
                Line line = find(buffers.get(c), r.line);
                if (line != null) {
                    r.value = line.value;
                    quick = true;
                    met[r.kind == 0 ? 3 : 4]++;
                    buffers.get(c).remove(line);
                    unask(c, r.line);
                    if (r.kind == 0) {
                        memory[r.line] = line.value;
                    }
                }
            }
            r.due = now + (quick ? fast : slow);
            r.toBe = r.kind == 0 ? 2 : 3;
            for (int c = 0; c < cores; c++) {
                Line line = find(caches.get(c), r.line);
                if (line != null && r.kind == 0) {
                    if (line.state == 3) {
                        memory[r.line] = line.value;
                    }
                    line.state = 1;
                    r.toBe = 1;
                } else if (line != null) {
                    caches.get(c).remove(line);
                }
            }
        }

        static final Pattern COMMAND = Pattern.compile(
                "\\G(?:(read|drop) (\\d{1,4}) (\\d{1,4});|(store) (\\d{1,4}) (\\d{1,4}) (\\d{1,4});|(turn) (\\d{1,4});)");

        /** The commands, or the place of the fault as the one number. */
        Object commands() {
            List<int[]> rows = new ArrayList<>();
            Matcher m = COMMAND.matcher(text);
            int at = 0;
            while (at < text.length()) {
                if (!m.find(at) || m.start() != at) {
                    return at;
                }
                int[] row;
                if (m.group(1) != null) {
                    row = new int[] {m.group(1).equals("read") ? 1 : 3, num(m, 2), num(m, 3), 0};
                } else if (m.group(4) != null) {
                    row = new int[] {2, num(m, 5), num(m, 6), num(m, 7)};
                } else {
                    row = new int[] {0, num(m, 9), 0, 0};
                }
                boolean told = row[0] == 0 ? row[1] >= 1 && row[1] <= 99 : row[1] < cores && row[2] < 8;
                if (!told) {
                    return at;
                }
                rows.add(row);
                at = m.end();
            }
            return rows;
        }

        static int num(Matcher m, int group) {
            return Integer.parseInt(m.group(group));
        }

        int act(int[] row) {
            switch (row[0]) {
                case 0: return turn(row[1]);
                case 1: return read(row[1], row[2]);
                case 2: return store(row[1], row[2], row[3]);
                default: return drop(row[1], row[2]);
            }
        }

        int play() {
            Object rows = commands();
            if (rows instanceof Integer || text.isEmpty()) return NO;
            met[11]++;
            int good = 0;
            for (Object row : (List<?>) rows) {
                int answer = act((int[]) row);
                if (answer >= 0 || answer == WAITS) {
                    good++;
                } else {
                    met[12]++;
                }
            }
            return good;
        }

        int day(int z, int n) {
            if (z < 0 || z > 9999 || n < 1 || n > 40) return BAD;
            int good = 0;
            for (int k = 0; k < n; k++) {
                long x = Math.addExact(Math.addExact(7919L * z, 6151L * k), 1L);
                long draw = Math.multiplyExact(x, x) % 65521;
                int kind = (int) (draw % 4);
                int first = kind == 0 ? 1 : (int) (draw / 4 % cores);
                int answer = act(new int[] {kind, first, (int) (draw / 64 % 8), (int) (draw / 512 % 100)});
                if (answer >= 0 || answer == WAITS) {
                    good++;
                }
            }
            return good;
        }

        List<String> lastOrder() {
            return order.subList(Math.max(0, order.size() - 16), order.size());
        }

        static int letter(String s, int i) {
            return i < -1 ? BAD : i == -1 ? s.length() : i < s.length() ? s.charAt(i) : NONE;
        }

        static boolean noLetter(int x) {
            return x < 32 || x > 126;
        }

        int told(int a, int b, int d) {
            if (noLetter(a) || noLetter(b) || noLetter(d)) return BAD;
            int good = 0;
            for (String s : lastOrder()) {
                if ((a == 42 || a == s.charAt(0)) && (b == 42 || b == s.charAt(1)) && (d == 42 || d == s.charAt(2))) {
                    good++;
                }
            }
            return good;
        }

        int word(int c, int l, int i) {
            if (noCore(c) || noLine(l) || i < -1) return BAD;
            String[] words = {"missing", "shared", "alone", "changed"};
            boolean hidden = state(c, l) == 0 && find(buffers.get(c), l) != null;
            return letter(hidden ? "buffered" : words[state(c, l)], i);
        }

        int cached(int c, int l, int what) {
            if (noCore(c) || noLine(l) || what < 0 || what > 2) return BAD;
            Line line = find(caches.get(c), l);
            if (what == 0) return state(c, l);
            if (line == null) return NONE;
            return what == 1 ? line.value : caches.get(c).size() - 1 - caches.get(c).indexOf(line);
        }

        int buffered(int c, int i, int what) {
            if (noCore(c) || i < -1 || what < 0 || what > 1) return BAD;
            List<Line> buffer = buffers.get(c);
            if (i == -1) return buffer.size();
            if (i >= buffer.size()) return NONE;
            return what == 0 ? buffer.get(i).line : buffer.get(i).value;
        }

        int truth(int l) {
            if (noLine(l)) return BAD;
            Req open = openOf(l);
            if (open != null && open.kind == 1) return ops[open.core][2];
            for (int c = 0; c < cores; c++) {
                if (state(c, l) >= 2) return find(caches.get(c), l).value;
            }
            for (int c = 0; c < cores; c++) {
                Line line = find(buffers.get(c), l);
                if (line != null) return line.value;
            }
            return memory[l];
        }

        int core(int c, int what) {
            if (noCore(c) || what < 0 || what > 5) return BAD;
            if (what == 0) return last[c];
            if (what == 1) return ops[c] == null ? 0 : ops[c][0];
            if (ops[c] == null) return NONE;
            if (what == 2) return ops[c][1];
            if (what == 3) return now - ops[c][3];
            Req open = opens.stream().filter(x -> x.core == c).findFirst().orElse(null);
            Req wait = waits.stream().filter(x -> x.core == c && x.kind != 3).findFirst().orElse(null);
            if (what == 4) return open != null ? 1 : 0;
            return open != null ? open.sent : wait.sent;
        }

        int waiting(int i, int what) {
            if (i < -1 || what < 0 || what > 4) return BAD;
            if (i == -1) return waits.size();
            if (i >= waits.size()) return NONE;
            Req r = sorted().get(i);
            return new int[] {r.core, r.kind, r.line, r.place, r.sent}[what];
        }

        int open(int i, int what) {
            if (i < -1 || what < 0 || what > 4) return BAD;
            if (i == -1) return opens.size();
            if (i >= opens.size()) return NONE;
            Req r = opens.get(i);
            return new int[] {r.core, r.kind, r.line, r.due, r.toBe}[what];
        }

        int begin(int c, int k, int f, int s) {
            if (c < 2 || c > 4 || k < 1 || k > 4 || f < 1 || f > 9 || s < 1 || s > 9) return BAD;
            start(c, k, f, s);
            return c;
        }

        int write(int x) {
            if (noLetter(x)) return BAD;
            if (text.length() == 200) return FULL;
            text += (char) x;
            return text.length();
        }

        int wipe() {
            int length = text.length();
            text = "";
            return length;
        }

        int count(int what) {
            int[] all = {cores, size, fast, slow, now, total, sentAway, beaten, ended, answers, text.length()};
            return what < 0 || what >= all.length ? BAD : all[what];
        }

        boolean noCore(int c) {
            return c < 0 || c >= cores;
        }

        static boolean noLine(int l) {
            return l < 0 || l > 7;
        }

        int call(int f, int a, int b, int c, int d) {
            switch (f) {
                case 0: return begin(a, b, c, d);
                case 1: return read(a, b);
                case 2: return store(a, b, c);
                case 3: return drop(a, b);
                case 4: return turn(a);
                case 5: return write(a);
                case 6: return wipe();
                case 7: return commands() instanceof Integer place ? place : NONE;
                case 8: return play();
                case 9: return letter(String.join(" ", lastOrder()), a);
                case 10: return told(a, b, c);
                case 11: return word(a, b, c);
                case 12: return cached(a, b, c);
                case 13: return buffered(a, b, c);
                case 14: return noLine(a) ? BAD : memory[a];
                case 15: return truth(a);
                case 16: return core(a, b);
                case 17: return waiting(a, b);
                case 18: return open(a, b);
                case 19: return day(a, b);
                default: return count(a);
            }
        }
    }

    private static final String[] NAMES = {"begin", "read", "store", "drop", "turn", "write", "wipe", "fault", "play",
        "order", "told", "word", "cached", "buffered", "memory", "truth", "core", "waiting", "open", "day", "count"};
    private static final int[] ARITY = {4, 2, 3, 2, 1, 1, 0, 0, 0, 1, 3, 3, 3, 3, 1, 1, 2, 2, 2, 2, 1};

    private static int call(SplitWatch x, int f, int a, int b, int c, int d) {
        switch (f) {
            case 0: return x.begin(a, b, c, d);
            case 1: return x.read(a, b);
            case 2: return x.store(a, b, c);
            case 3: return x.drop(a, b);
            case 4: return x.turn(a);
            case 5: return x.write(a);
            case 6: return x.wipe();
            case 7: return x.fault();
            case 8: return x.play();
            case 9: return x.order(a);
            case 10: return x.told(a, b, c);
            case 11: return x.word(a, b, c);
            case 12: return x.cached(a, b, c);
            case 13: return x.buffered(a, b, c);
            case 14: return x.memory(a);
            case 15: return x.truth(a);
            case 16: return x.core(a, b);
            case 17: return x.waiting(a, b);
            case 18: return x.open(a, b);
            case 19: return x.day(a, b);
            default: return x.count(a);
        }
    }

    /** One object and its model, side by side. */
    private static final class Pair {
        final SplitWatch x = new SplitWatch();
        final Model m = new Model();
        final List<String> told = new ArrayList<>();
        int calls;
        boolean good = true;

        void both(int f, int... args) {
            if (!good || calls == CALLS) {
                return;
            }
            calls++;
            int[] a = Arrays.copyOf(args, 4);
            int want = m.call(f, a[0], a[1], a[2], a[3]);
            int got = ModelTest.call(x, f, a[0], a[1], a[2], a[3]);
            String numbers = Arrays.toString(Arrays.copyOf(a, ARITY[f])).replace('[', '(').replace(']', ')');
            told.add(NAMES[f] + numbers + " = " + got);
            if (got != want) {
                good = false;
                told.add("due is " + want);
            }
        }

        boolean isSpent() {
            return !good || calls >= CALLS;
        }
    }

    private static void act(Pair p, Random r, int lines) {
        int c = r.nextInt(p.m.cores);
        int l = r.nextInt(lines);
        int pick = r.nextInt(20);
        if (pick < 5) {
            p.both(1, c, l);
        } else if (pick < 11) {
            p.both(2, c, l, r.nextInt(10000));
        } else if (pick < 14) {
            p.both(3, c, l);
        } else if (pick < 19) {
            p.both(4, 1);
        } else {
            p.both(4, 1 + r.nextInt(12));
        }
    }

    private static void look(Pair p, Random r) {
        int c = r.nextInt(p.m.cores);
        int l = r.nextInt(8);
        switch (r.nextInt(11)) {
            case 0: p.both(9, r.nextInt(66) - 1); break;
            case 1: p.both(10, "*0123".charAt(r.nextInt(5)), "*ROUWB".charAt(r.nextInt(6)), "*01234567".charAt(r.nextInt(9)));
                break;
            case 2: p.both(11, c, l, r.nextInt(10) - 1); break;
            case 3: p.both(12, c, l, r.nextInt(3)); break;
            case 4: p.both(13, c, r.nextInt(4) - 1, r.nextInt(2)); break;
            case 5: p.both(14, l); break;
            case 6: p.both(15, l); break;
            case 7: p.both(16, c, r.nextInt(6)); break;
            case 8: p.both(17, r.nextInt(8) - 1, r.nextInt(5)); break;
            case 9: p.both(18, r.nextInt(6) - 1, r.nextInt(5)); break;
            default: p.both(20, r.nextInt(11)); break;
        }
    }

    private static void start(Pair p, Random r) {
        p.both(0, 2 + r.nextInt(3), 1 + r.nextInt(4), 1 + r.nextInt(9), 1 + r.nextInt(9));
    }

    private static void contend(Pair p, Random r) {
        start(p, r);
        int lines = 1 + r.nextInt(8);
        int looks = 1 + r.nextInt(5);
        while (!p.isSpent()) {
            act(p, r, lines);
            for (int i = 0; i < looks; i++) {
                look(p, r);
            }
        }
    }

    private static String command(Random r) {
        String[] forms = {"read %d %d;", "store %d %d %d;", "drop %d %d;", "turn %4$d;", "turn %4$03d;", "read %02d %04d;"};
        String s = String.format(forms[r.nextInt(forms.length)], r.nextInt(2), r.nextInt(8), r.nextInt(10000), 1 + r.nextInt(30));
        if (r.nextInt(25) == 0) {
            int at = r.nextInt(s.length());
            String junk = " ;0129arx~";
            char put = junk.charAt(r.nextInt(junk.length()));
            s = s.substring(0, at) + put + s.substring(r.nextBoolean() ? at : at + 1);
        }
        return s;
    }

    private static void script(Pair p, Random r) {
        start(p, r);
        while (!p.isSpent()) {
            StringBuilder text = new StringBuilder();
            int commands = 1 + r.nextInt(12);
            for (int i = 0; i < commands; i++) {
                text.append(command(r));
            }
            for (int i = 0; i < text.length(); i++) {
                p.both(5, text.charAt(i));
            }
            p.both(7);
            p.both(8);
            for (int i = 0; i < 20; i++) {
                look(p, r);
            }
            if (r.nextInt(4) != 0) {
                p.both(6);
            }
        }
    }

    private static void days(Pair p, Random r) {
        start(p, r);
        while (!p.isSpent()) {
            p.both(19, r.nextInt(10000), 1 + r.nextInt(40));
            for (int i = 0; i < 12; i++) {
                look(p, r);
            }
        }
    }

    private static final int[] WILD = {Integer.MIN_VALUE, -100, -2, -1, 0, 1, 2, 3, 4, 5, 6, 7, 8, 9, 10, 11, 31, 32, 40, 41, 42,
        48, 82, 99, 100, 126, 127, 200, 9999, 10000, 65568, Integer.MAX_VALUE};

    private static void wild(Pair p, Random r) {
        while (!p.isSpent()) {
            int[] a = new int[4];
            int reach = r.nextInt(3) == 0 ? WILD.length : 9;
            for (int i = 0; i < 4; i++) {
                a[i] = WILD[reach == 9 ? 3 + r.nextInt(9) : r.nextInt(reach)];
            }
            int f = r.nextInt(NAMES.length);
            if (f == 0 && r.nextInt(8) != 0) {
                f = 4;
            }
            p.both(f, a);
        }
    }

    public static void main(String[] args) {
        int wrong = 0;
        for (int seed = 0; seed < 6000 && wrong < 5; seed++) {
            Random r = new Random(seed);
            Pair p = new Pair();
            switch (seed % 6) {
                case 0: script(p, r); break;
                case 1: days(p, r); break;
                case 2: wild(p, r); break;
                default: contend(p, r); break;
            }
            if (!p.good) {
                wrong++;
                System.out.println("seed " + seed + ":");
                p.told.subList(Math.max(0, p.told.size() - 60), p.told.size()).forEach(System.out::println);
            }
        }
        for (int i = 0; i < RARE.length; i++) {
            if (met[i] == 0) {
                wrong++;
                System.out.println("no run met: " + RARE[i]);
            }
        }
        if (args.length > 0) {
            for (int i = 0; i < RARE.length; i++) {
                System.out.println(RARE[i] + ": " + met[i]);
            }
        }
        System.out.println(wrong == 0 ? "all answers are as the model's" : wrong + " runs are not as the model's");
        if (wrong != 0) {
            System.exit(1);
        }
    }
}
