/**
 * Memory watched on a bus whose turns are split: a request gets its place in the one order at an
 * address turn, and its answer comes turns later, while others ask for other lines.
 */
public final class SplitWatch {
    public static final int BAD = -1, NO = -2, FULL = -3, NONE = -4, WAITS = -5;

    private static final int MIN_CORES = 2, MAX_CORES = 4, LINES = 8, MAX_CAPACITY = 4, MAX_DELAY = 9;
    private static final int MAX_VALUE = 9999, MAX_TURNS = 99;
    private static final int MAX_SEED = 9999, MAX_DAY = 40;
    private static final int FIRST_LETTER = 32, LAST_LETTER = 126, ANY_LETTER = 42;
    private static final int HOW_MANY = -1, NOWHERE = -1;

    private static final int MISSING = 0, SHARED = 1, ALONE = 2, CHANGED = 3;
    private static final int READ = 0, OWN = 1, RISE = 2, BACK = 3;
    private static final int IDLE = 0, WAITING = 1, OPEN = 2;

    /** What a command does, numbered as a day draws it. */
    private static final int DO_TURN = 0, DO_READ = 1, DO_STORE = 2, DO_DROP = 3;

    private final Bus bus;
    private final Script script;

    public SplitWatch() {
        bus = new Bus();
        bus.reset(3, 2, 1, 3);
        script = new Script();
    }

    public int begin(int c, int k, int fast, int slow) {
        boolean allTold = isWithin(c, MIN_CORES, MAX_CORES) && isWithin(k, 1, MAX_CAPACITY)
                && isWithin(fast, 1, MAX_DELAY) && isWithin(slow, 1, MAX_DELAY);
        if (!allTold) {
            return BAD;
        }
        bus.reset(c, k, fast, slow);
        return c;
    }

    // ---- cores

    public int read(int c, int l) {
        if (!bus.hasCore(c) || !isLine(l)) {
            return BAD;
        }
        return bus.startRead(c, l);
    }

    public int store(int c, int l, int v) {
        if (!bus.hasCore(c) || !isLine(l) || !isWithin(v, 0, MAX_VALUE)) {
            return BAD;
        }
        return bus.startStore(c, l, v);
    }

    public int drop(int c, int l) {
        if (!bus.hasCore(c) || !isLine(l)) {
            return BAD;
        }
        return bus.dropLine(c, l);
    }

    public int turn(int n) {
        if (!isWithin(n, 1, MAX_TURNS)) {
            return BAD;
        }
        return bus.runTurns(n);
    }

    // ---- texts

    public int write(int letter) {
        if (!isLetter(letter)) {
            return BAD;
        }
        return script.append((char) letter);
    }

    public int wipe() {
        int length = script.length;
        script.length = 0;
        return length;
    }

    public int fault() {
        return script.findFault(bus.coreCount);
    }

    public int play() {
        if (script.length == 0 || script.findFault(bus.coreCount) != NONE) {
            return NO;
        }
        int taken = 0;
        int at = 0;
        for (int n = 0; n < Script.MAX_LENGTH && at < script.length; n++) {
            script.understand(at, bus.coreCount);
            int[] numbers = script.numbers;
            if (!isRefusal(bus.perform(script.verb, numbers[0], numbers[1], numbers[2]))) {
                taken++;
            }
            at = script.end;
        }
        return taken;
    }

    public int order(int i) {
        if (i < HOW_MANY) {
            return BAD;
        }
        int length = bus.log.lineLength();
        if (i == HOW_MANY) {
            return length;
        }
        return i < length ? bus.log.letterAt(i) : NONE;
    }

    public int told(int core, int kind, int line) {
        if (!isLetter(core) || !isLetter(kind) || !isLetter(line)) {
            return BAD;
        }
        return bus.log.matches(core, kind, line);
    }

    public int word(int c, int l, int i) {
        if (!bus.hasCore(c) || !isLine(l) || i < HOW_MANY) {
            return BAD;
        }
        String name = bus.nameOf(c, l);
        int length = name.length();
        if (i == HOW_MANY) {
            return length;
        }
        if (i >= length) {
            return NONE;
        }
        return name.charAt(i);
    }

    // ---- looked at

    public int cached(int c, int l, int what) {
        if (!bus.hasCore(c) || !isLine(l) || !isWithin(what, 0, 2)) {
            return BAD;
        }
        Cache cache = bus.cores[c].cache;
        if (what == 0) {
            return cache.state[l];
        }
        if (cache.state[l] == MISSING) {
            return NONE;
        }
        return what == 1 ? cache.value[l] : cache.usedLater(l);
    }

    public int buffered(int c, int i, int what) {
        if (!bus.hasCore(c) || i < HOW_MANY || !isWithin(what, 0, 1)) {
            return BAD;
        }
        Core core = bus.cores[c];
        if (i == HOW_MANY) {
            return core.bufferSize();
        }
        Request back = core.backAt(i);
        if (back == null) {
            return NONE;
        }
        return what == 0 ? back.line : back.value;
    }

    public int memory(int l) {
        return isLine(l) ? bus.kept[l] : BAD;
    }

    public int truth(int l) {
        return isLine(l) ? bus.trueValue(l) : BAD;
    }

    public int core(int c, int what) {
        if (!bus.hasCore(c) || !isWithin(what, 0, 5)) {
            return BAD;
        }
        Core core = bus.cores[c];
        Request op = core.op;
        if (what == 0) {
            return core.last;
        }
        if (op.stage == IDLE) {
            return what == 1 ? 0 : NONE;
        }
        switch (what) {
            case 1: return op.kind == READ ? 1 : 2;
            case 2: return op.line;
            case 3: return bus.now - op.since;
            case 4: return op.stage == OPEN ? 1 : 0;
            default: return op.sent;
        }
    }

    public int waiting(int i, int what) {
        if (i < HOW_MANY || !isWithin(what, 0, 4)) {
            return BAD;
        }
        if (i == HOW_MANY) {
            return bus.countAt(WAITING);
        }
        Request request = bus.waitingAt(i);
        if (request == null) {
            return NONE;
        }
        switch (what) {
            case 0: return request.core;
            case 1: return request.kind;
            case 2: return request.line;
            case 3: return request.place;
            default: return request.sent;
        }
    }

    public int open(int i, int what) {
        if (i < HOW_MANY || !isWithin(what, 0, 4)) {
            return BAD;
        }
        if (i == HOW_MANY) {
            return bus.countAt(OPEN);
        }
        Request request = bus.openAt(i);
        if (request == null) {
            return NONE;
        }
        switch (what) {
            case 0: return request.core;
            case 1: return request.kind;
            case 2: return request.line;
            case 3: return request.due;
            default: return request.toBe;
        }
    }

    public int day(int z, int n) {
        if (!isWithin(z, 0, MAX_SEED) || !isWithin(n, 1, MAX_DAY)) {
            return BAD;
        }
        int cores = Math.max(bus.coreCount, 1);
        int taken = 0;
        for (int k = 0; k < n; k++) {
            long x = 7919L * z + 6151L * k + 1;
            int draw = (int) (x * x % 65521);
            int verb = draw % 4;
            int first = verb == DO_TURN ? 1 : draw / 4 % cores;
            if (!isRefusal(bus.perform(verb, first, draw / 64 % LINES, draw / 512 % 100))) {
                taken++;
            }
        }
        return taken;
    }

    public int count(int what) {
        switch (what) {
            case 0: return bus.coreCount;
            case 1: return bus.capacity;
            case 2: return bus.fast;
            case 3: return bus.slow;
            case 4: return bus.now;
            case 5: return bus.log.total;
            case 6: return bus.sentAway;
            case 7: return bus.beaten;
            case 8: return bus.ended;
            case 9: return bus.answers;
            case 10: return script.length;
            default: return BAD;
        }
    }

    private static boolean isWithin(int number, int low, int high) {
        return number >= low && number <= high;
    }

    private static boolean isLine(int l) {
        return isWithin(l, 0, LINES - 1);
    }

    private static boolean isLetter(int letter) {
        return isWithin(letter, FIRST_LETTER, LAST_LETTER);
    }

    private static boolean isRefusal(int answer) {
        return answer < 0 && answer != WAITS;
    }

    /** The lines of one core's cache. */
    private static final class Cache {
        private final int[] state = new int[LINES];
        private final int[] value = new int[LINES];
        private final int[] usedAt = new int[LINES];
        private int uses;

        private void clear() {
            for (int l = 0; l < LINES; l++) {
                state[l] = MISSING;
                value[l] = 0;
                usedAt[l] = 0;
            }
            uses = 0;
        }

        private boolean isSole(int l) {
            return state[l] == ALONE || state[l] == CHANGED;
        }

        private void use(int l) {
            uses++;
            usedAt[l] = uses;
        }

        private void put(int l, int newState, int newValue) {
            state[l] = newState;
            value[l] = newValue;
            use(l);
        }

        private int held() {
            int lines = 0;
            for (int l = 0; l < LINES; l++) {
                if (state[l] != MISSING) {
                    lines++;
                }
            }
            return lines;
        }

        private int oldest() {
            int found = NOWHERE;
            for (int l = 0; l < LINES; l++) {
                if (state[l] != MISSING && (found == NOWHERE || usedAt[l] < usedAt[found])) {
                    found = l;
                }
            }
            return found;
        }

        private int usedLater(int line) {
            int lines = 0;
            for (int l = 0; l < LINES; l++) {
                if (state[l] != MISSING && usedAt[l] > usedAt[line]) {
                    lines++;
                }
            }
            return lines;
        }
    }

    /** What one core asks for: made once, used again for whatever is asked next in its slot. */
    private static final class Request {
        private final int core;
        private int stage;
        private int kind;
        private int line;
        /** What the line will have when the request has ended: for an open READ, the value on its way. */
        private int value;
        private int since;
        private int place;
        private int sent;
        private int orderedAs;
        private int due;
        private int toBe;

        private Request(int core) {
            this.core = core;
        }
    }

    /**
     * A core with its cache and its one op. Its buffer is not held apart: a line is in the buffer
     * exactly as long as its BACK waits, so the BACK that waits, with its value, is the buffered line.
     */
    private static final class Core {
        private static final int BUFFER = 2;

        private final Cache cache = new Cache();
        private final Request op;
        private final Request[] backs = new Request[BUFFER];
        private int last;

        private Core(int number) {
            op = new Request(number);
            for (int i = 0; i < BUFFER; i++) {
                backs[i] = new Request(number);
            }
        }

        private void clear() {
            cache.clear();
            op.stage = IDLE;
            for (int i = 0; i < BUFFER; i++) {
                backs[i].stage = IDLE;
            }
            last = NONE;
        }

        private int bufferSize() {
            int size = 0;
            for (int i = 0; i < BUFFER; i++) {
                if (backs[i].stage == WAITING) {
                    size++;
                }
            }
            return size;
        }

        /** The back of a line, or null: the line is not in the buffer. */
        private Request backOf(int l) {
            for (int i = 0; i < BUFFER; i++) {
                if (backs[i].stage == WAITING && backs[i].line == l) {
                    return backs[i];
                }
            }
            return null;
        }

        /** The index-th of the buffer, or null. A later one has a higher place: a BACK is never sent away. */
        private Request backAt(int index) {
            for (int i = 0; i < BUFFER; i++) {
                if (backs[i].stage == WAITING && earlierBacks(backs[i].place) == index) {
                    return backs[i];
                }
            }
            return null;
        }

        private int earlierBacks(int place) {
            int earlier = 0;
            for (int i = 0; i < BUFFER; i++) {
                if (backs[i].stage == WAITING && backs[i].place < place) {
                    earlier++;
                }
            }
            return earlier;
        }

        private Request freeBack() {
            for (int i = 0; i < BUFFER; i++) {
                if (backs[i].stage == IDLE) {
                    return backs[i];
                }
            }
            return null;
        }
    }

    /**
     * The order of all requests: how many there were, and the letters of the last ones. Where the next one goes
     * is held apart from how many there were, so that it is an index whatever that number has come to.
     */
    private static final class Log {
        private static final int KEPT = 16, LETTERS = 3, STEP = LETTERS + 1;

        private final char[] letters = new char[KEPT * LETTERS];
        private int total;
        private int size;
        private int next;

        private void clear() {
            total = 0;
            size = 0;
            next = 0;
        }

        private void add(int core, char kind, int line) {
            int at = next * LETTERS;
            letters[at] = (char) ('0' + core);
            letters[at + 1] = kind;
            letters[at + 2] = (char) ('0' + line);
            total++;
            size = Math.min(size + 1, KEPT);
            next = (next + 1) % KEPT;
        }

        private int lineLength() {
            return size == 0 ? 0 : size * STEP - 1;
        }

        private int letterAt(int i) {
            int part = i % STEP;
            if (part == LETTERS) {
                return ' ';
            }
            int entry = (KEPT + next - size + i / STEP) % KEPT;
            return letters[entry * LETTERS + part];
        }

        private int matches(int core, int kind, int line) {
            int found = 0;
            for (int entry = 0; entry < size; entry++) {
                int at = entry * LETTERS;
                if (fits(core, letters[at]) && fits(kind, letters[at + 1]) && fits(line, letters[at + 2])) {
                    found++;
                }
            }
            return found;
        }

        private static boolean fits(int wanted, char letter) {
            return wanted == ANY_LETTER || wanted == letter;
        }
    }

    /** The cores, the memory and the bus between them. Its callers have looked at cores and lines. */
    private static final class Bus {
        private static final int SLOTS = 1 + Core.BUFFER, PATIENCE = 3, ABOVE_PLACES = 1 << 30;

        private final Core[] cores = new Core[MAX_CORES];
        private final Request[] requests = new Request[MAX_CORES * SLOTS];
        private final int[] kept = new int[LINES];
        private final Log log = new Log();
        private int coreCount;
        private int capacity;
        private int fast;
        private int slow;
        private int now;
        private int places;
        private int sentAway;
        private int beaten;
        private int ended;
        private int answers;

        private Bus() {
            for (int c = 0; c < MAX_CORES; c++) {
                cores[c] = new Core(c);
                requests[c * SLOTS] = cores[c].op;
                for (int i = 0; i < Core.BUFFER; i++) {
                    requests[c * SLOTS + 1 + i] = cores[c].backs[i];
                }
            }
        }

        private void reset(int newCores, int newCapacity, int newFast, int newSlow) {
            coreCount = newCores;
            capacity = newCapacity;
            fast = newFast;
            slow = newSlow;
            now = 0;
            places = 0;
            sentAway = 0;
            beaten = 0;
            ended = 0;
            answers = 0;
            log.clear();
            for (int c = 0; c < MAX_CORES; c++) {
                cores[c].clear();
            }
            for (int l = 0; l < LINES; l++) {
                kept[l] = 0;
            }
        }

        private boolean hasCore(int c) {
            return isWithin(c, 0, coreCount - 1);
        }

        /** A command whose numbers are all told: by its core, line and value, or by its turns. */
        private int perform(int verb, int first, int second, int third) {
            switch (verb) {
                case DO_TURN: return runTurns(first);
                case DO_READ: return startRead(first, second);
                case DO_STORE: return startStore(first, second, third);
                case DO_DROP: return dropLine(first, second);
                default: return BAD;
            }
        }

        private int startRead(int c, int l) {
            Core core = cores[c];
            if (core.op.stage != IDLE) {
                return NO;
            }
            takeBack(core, l);
            if (core.cache.state[l] == MISSING) {
                ask(core.op, READ, l, 0);
                return WAITS;
            }
            core.cache.use(l);
            core.last = core.cache.value[l];
            ended++;
            return core.last;
        }

        private int startStore(int c, int l, int v) {
            Core core = cores[c];
            if (core.op.stage != IDLE) {
                return NO;
            }
            takeBack(core, l);
            if (core.cache.isSole(l)) {
                core.cache.put(l, CHANGED, v);
                ended++;
                return 0;
            }
            ask(core.op, core.cache.state[l] == SHARED ? RISE : OWN, l, v);
            return WAITS;
        }

        private int dropLine(int c, int l) {
            Core core = cores[c];
            int state = core.cache.state[l];
            if (state == MISSING) {
                return NO;
            }
            if (state == CHANGED && core.freeBack() == null) {
                return FULL;
            }
            giveUp(core, l);
            return state;
        }

        private int runTurns(int n) {
            int endedBefore = ended;
            for (int i = 0; i < n; i++) {
                now++;
                answerTurn();
                addressTurn();
            }
            return ended - endedBefore;
        }

        private void ask(Request request, int kind, int l, int value) {
            request.stage = WAITING;
            request.kind = kind;
            request.line = l;
            request.value = value;
            request.since = now;
            request.place = places;
            request.sent = 0;
            places++;
        }

        private void takeBack(Core core, int l) {
            Request back = core.backOf(l);
            if (back != null) {
                back.stage = IDLE;
                fill(core, l, CHANGED, back.value);
            }
        }

        private boolean canFill(Core core) {
            if (core.cache.held() < capacity) {
                return true;
            }
            int oldest = core.cache.oldest();
            return oldest == NOWHERE || core.cache.state[oldest] != CHANGED || core.freeBack() != null;
        }

        private void fill(Core core, int l, int state, int value) {
            if (core.cache.held() >= capacity) {
                int oldest = core.cache.oldest();
                if (oldest != NOWHERE) {
                    giveUp(core, oldest);
                }
            }
            core.cache.put(l, state, value);
        }

        private void giveUp(Core core, int l) {
            if (core.cache.state[l] == CHANGED) {
                Request back = core.freeBack();
                if (back == null) {
                    return;
                }
                ask(back, BACK, l, core.cache.value[l]);
            }
            core.cache.state[l] = MISSING;
        }

        private void answerTurn() {
            Request found = null;
            for (int c = 0; c < coreCount; c++) {
                Request op = cores[c].op;
                boolean ready = op.stage == OPEN && op.due <= now && canFill(cores[c]);
                if (ready && (found == null || op.orderedAs < found.orderedAs)) {
                    found = op;
                }
            }
            if (found == null) {
                return;
            }
            Core core = cores[found.core];
            fill(core, found.line, found.toBe, found.value);
            if (found.kind == READ) {
                core.last = found.value;
            }
            found.stage = IDLE;
            ended++;
            answers++;
        }

        private void addressTurn() {
            Request request = nextWaiting();
            if (request == null) {
                return;
            }
            if (openOf(request.line) != null) {
                sendAway(request);
                return;
            }
            boolean stillShared = cores[request.core].cache.state[request.line] == SHARED;
            switch (request.kind) {
                case BACK: orderBack(request); break;
                case READ: orderRead(request); break;
                case OWN: orderOwn(request, 'O'); break;
                default:
                    if (stillShared) {
                        orderRise(request);
                    } else {
                        beaten++;
                        orderOwn(request, 'W');
                    }
                    break;
            }
        }

        private void sendAway(Request request) {
            request.sent++;
            request.place = places;
            places++;
            sentAway++;
        }

        private void orderBack(Request request) {
            log.add(request.core, 'B', request.line);
            kept[request.line] = request.value;
            request.stage = IDLE;
        }

        private void orderRise(Request request) {
            log.add(request.core, 'U', request.line);
            takeFromOthers(request.core, request.line);
            cores[request.core].cache.put(request.line, CHANGED, request.value);
            request.stage = IDLE;
            ended++;
        }

        private void orderRead(Request request) {
            int l = request.line;
            log.add(request.core, 'R', l);
            request.stage = OPEN;
            request.orderedAs = log.total;
            request.due = now + answerTime(request.core, l);
            request.toBe = ALONE;
            for (int c = 0; c < coreCount; c++) {
                if (c != request.core) {
                    bringToMemory(cores[c], l);
                    if (cores[c].cache.state[l] != MISSING) {
                        request.toBe = SHARED;
                    }
                }
            }
            // Shared copies are alike with memory, and a sole or buffered one has just come there.
            request.value = kept[l];
        }

        private void orderOwn(Request request, char letter) {
            int l = request.line;
            log.add(request.core, letter, l);
            request.kind = OWN;
            request.stage = OPEN;
            request.orderedAs = log.total;
            request.due = now + answerTime(request.core, l);
            request.toBe = CHANGED;
            takeFromOthers(request.core, l);
        }

        private int answerTime(int asker, int l) {
            for (int c = 0; c < coreCount; c++) {
                if (c != asker && (cores[c].cache.isSole(l) || cores[c].backOf(l) != null)) {
                    return fast;
                }
            }
            return slow;
        }

        private void bringToMemory(Core core, int l) {
            if (core.cache.isSole(l)) {
                kept[l] = core.cache.value[l];
                core.cache.state[l] = SHARED;
            }
            Request back = core.backOf(l);
            if (back != null) {
                kept[l] = back.value;
                back.stage = IDLE;
            }
        }

        private void takeFromOthers(int asker, int l) {
            for (int c = 0; c < coreCount; c++) {
                if (c != asker) {
                    cores[c].cache.state[l] = MISSING;
                    Request back = cores[c].backOf(l);
                    if (back != null) {
                        back.stage = IDLE;
                    }
                }
            }
        }

        /** The request that has a line open, or null. */
        private Request openOf(int l) {
            for (int c = 0; c < coreCount; c++) {
                Request op = cores[c].op;
                if (op.stage == OPEN && op.line == l) {
                    return op;
                }
            }
            return null;
        }

        /** A lower key is ordered first: those sent away often, once their line is free, by place; then the others. */
        private int keyOf(Request request) {
            boolean urgent = request.sent >= PATIENCE && openOf(request.line) == null;
            return urgent ? request.place - ABOVE_PLACES : request.place;
        }

        private Request nextWaiting() {
            Request first = null;
            for (int i = 0; i < requests.length; i++) {
                Request request = requests[i];
                if (request.stage == WAITING && (first == null || keyOf(request) < keyOf(first))) {
                    first = request;
                }
            }
            return first;
        }

        private Request waitingAt(int index) {
            for (int i = 0; i < requests.length; i++) {
                if (requests[i].stage == WAITING && waitingAheadOf(requests[i]) == index) {
                    return requests[i];
                }
            }
            return null;
        }

        private int waitingAheadOf(Request request) {
            int ahead = 0;
            for (int i = 0; i < requests.length; i++) {
                if (requests[i].stage == WAITING && keyOf(requests[i]) < keyOf(request)) {
                    ahead++;
                }
            }
            return ahead;
        }

        private Request openAt(int index) {
            for (int i = 0; i < requests.length; i++) {
                if (requests[i].stage == OPEN && openAheadOf(requests[i]) == index) {
                    return requests[i];
                }
            }
            return null;
        }

        private int openAheadOf(Request request) {
            int ahead = 0;
            for (int i = 0; i < requests.length; i++) {
                if (requests[i].stage == OPEN && requests[i].orderedAs < request.orderedAs) {
                    ahead++;
                }
            }
            return ahead;
        }

        private int countAt(int stage) {
            int found = 0;
            for (int i = 0; i < requests.length; i++) {
                if (requests[i].stage == stage) {
                    found++;
                }
            }
            return found;
        }

        private int trueValue(int l) {
            Request opener = openOf(l);
            if (opener != null && opener.kind == OWN) {
                return opener.value;
            }
            for (int c = 0; c < coreCount; c++) {
                if (cores[c].cache.isSole(l)) {
                    return cores[c].cache.value[l];
                }
            }
            for (int c = 0; c < coreCount; c++) {
                Request back = cores[c].backOf(l);
                if (back != null) {
                    return back.value;
                }
            }
            return kept[l];
        }

        private String nameOf(int c, int l) {
            switch (cores[c].cache.state[l]) {
                case SHARED: return "shared";
                case ALONE: return "alone";
                case CHANGED: return "changed";
                default: return cores[c].backOf(l) != null ? "buffered" : "missing";
            }
        }
    }

    /** The text, and the command of it that was understood last. */
    private static final class Script {
        private static final int MAX_LENGTH = 200, MAX_NUMBERS = 3, MAX_FIGURES = 4;

        private final char[] letters = new char[MAX_LENGTH];
        private final int[] numbers = new int[MAX_NUMBERS];
        private int length;
        private int verb;
        private int end;

        private int append(char letter) {
            if (length >= MAX_LENGTH) {
                return FULL;
            }
            letters[length] = letter;
            length++;
            return length;
        }

        private int findFault(int cores) {
            int at = 0;
            for (int n = 0; n < MAX_LENGTH && at < length; n++) {
                if (!understand(at, cores)) {
                    return at;
                }
                at = end;
            }
            return NONE;
        }

        /** Whether a command stands at this place; if so its verb, its numbers and its end are kept. */
        private boolean understand(int from, int cores) {
            int at = from;
            for (int n = 0; n < MAX_LENGTH && isSmall(letterAt(at)); n++) {
                at++;
            }
            verb = verbOf(from, at);
            if (verb == NOWHERE) {
                return false;
            }
            int wanted = numbersOf(verb);
            for (int i = 0; i < wanted; i++) {
                at = takeNumber(at, i);
                if (at == NOWHERE) {
                    return false;
                }
            }
            end = at + 1;
            return letterAt(at) == ';' && areTold(cores);
        }

        /** The place behind a blank and a number, which is kept; NOWHERE: they do not stand there. */
        private int takeNumber(int from, int index) {
            if (letterAt(from) != ' ' || index < 0 || index >= MAX_NUMBERS) {
                return NOWHERE;
            }
            int at = from + 1;
            int number = 0;
            for (int n = 0; n < MAX_FIGURES && isFigure(letterAt(at)); n++) {
                number = number * 10 + (letterAt(at) - '0');
                at++;
            }
            numbers[index] = number;
            return at == from + 1 ? NOWHERE : at;
        }

        private boolean areTold(int cores) {
            if (verb == DO_TURN) {
                return isWithin(numbers[0], 1, MAX_TURNS);
            }
            boolean valueTold = verb != DO_STORE || isWithin(numbers[2], 0, MAX_VALUE);
            return isWithin(numbers[0], 0, cores - 1) && isLine(numbers[1]) && valueTold;
        }

        private int verbOf(int from, int to) {
            if (spells(from, to, "turn")) {
                return DO_TURN;
            }
            if (spells(from, to, "read")) {
                return DO_READ;
            }
            if (spells(from, to, "store")) {
                return DO_STORE;
            }
            return spells(from, to, "drop") ? DO_DROP : NOWHERE;
        }

        private boolean spells(int from, int to, String name) {
            if (to - from != name.length()) {
                return false;
            }
            for (int i = 0; i < name.length(); i++) {
                if (letterAt(from + i) != name.charAt(i)) {
                    return false;
                }
            }
            return true;
        }

        private char letterAt(int at) {
            return at >= 0 && at < length ? letters[at] : 0;
        }

        private static int numbersOf(int verb) {
            switch (verb) {
                case DO_TURN: return 1;
                case DO_STORE: return 3;
                default: return 2;
            }
        }

        private static boolean isSmall(char letter) {
            return letter >= 'a' && letter <= 'z';
        }

        private static boolean isFigure(char letter) {
            return letter >= '0' && letter <= '9';
        }
    }
}
