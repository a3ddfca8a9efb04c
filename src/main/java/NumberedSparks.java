import java.util.Arrays;

/** Sparks by their numbers: ../shared/DOC.md says what each call answers. */
public final class NumberedSparks {
    public static final int NONE = -1;

    private static final int REFUSED = -2;
    private static final int FAULTY = -4;
    private static final int UNKNOWN = -99;

    private static final int TAPE_BYTES = 500;
    private static final int LAST_TICK = 30000;
    private static final int MOST_CELLS = 40;
    private static final int EIGHTHS = 8;
    private static final int MOST_SEED = 999999;
    private static final int MOST_TICK_TOLD = 9999;
    private static final int LONGEST_LULL = 2000;

    // What a kind has, in the order in which kind() asks for it.
    private static final int LIFE = 0;
    private static final int VARY = 1;
    private static final int SPEED = 2;
    private static final int FALLS = 3;
    private static final int SIZE = 4;
    private static final int EDGE = 5;
    private static final int CHILDS = 6;
    private static final int CHILD_KIND = 7;
    private static final int KIND_FIELDS = 8;
    private static final int MOST_KINDS = 5;
    private static final int[] KIND_LEAST = {1, 0, 0, -9, 1};
    private static final int[] KIND_MOST = {40, 20, 20, 9, 9};

    private static final int WRAP = 0;
    private static final int BOUNCE = 1;
    private static final int ENDS = 2;

    // What a source has, in the order in which source() asks for it.
    private static final int ITS_KIND = 0;
    private static final int ITS_CELL = 1;
    private static final int FROM = 4;
    private static final int EVERY = 5;
    private static final int BURST = 6;
    private static final int UNTIL = 7;
    private static final int JITTER = 8;
    private static final int ROOTS = 9;
    private static final int SOURCE_FIELDS = 10;
    private static final int MOST_SOURCES = 4;

    private static final int WHEN_SALT = 0;
    private static final int LIFE_SALT = 1;
    private static final int SPEED_SALT = 2;
    private static final int COLOUR_SALT = 5;
    private static final int COLOURS = 8;

    private static final int GENERATIONS = 3;
    private static final int MOST_CHILDS = 2;
    private static final int LINE_SPARKS = 7;

    // More roots than any scene has: the end of loops that step over them.
    private static final int MANY = 1000000;

    private final int[] tape = new int[TAPE_BYTES];
    private int tapeLength;
    private final Scene scene = new Scene();
    private final Reader reader = new Reader();
    private final History history = new History();
    private final Output out = new Output();
    private final Walk walk = new Walk(scene);
    private final Frame frame = new Frame(scene, walk);
    private final Finder finder = new Finder(scene);
    private final Finder otherFinder = new Finder(scene);
    // One row for all calls that count by column, by tick or by cell.
    private final int[] counts = new int[LONGEST_LULL];

    public NumberedSparks() {
    }

    // ---- the text and the scene ----

    public int feed(int a, int b, int c, int d, int e) {
        if (tapeLength + 20 > TAPE_BYTES) {
            return NONE;
        }
        putOnTape(a);
        putOnTape(b);
        putOnTape(c);
        putOnTape(d);
        putOnTape(e);
        return tapeLength;
    }

    private void putOnTape(int number) {
        for (int shift = 24; shift >= 0; shift -= 8) {
            if (tapeLength >= 0 && tapeLength < tape.length) {
                tape[tapeLength] = (number >>> shift) & 255;
                tapeLength++;
            }
        }
    }

    public int end(int n) {
        if (n < 0 || n > tapeLength) {
            return NONE;
        }
        tapeLength = n;
        return n;
    }

    public int scene() {
        int lines = reader.read(tape, tapeLength);
        tapeLength = 0;
        if (lines < 0) {
            return FAULTY;
        }
        scene.become(reader.draft);
        history.forget();
        frame.forget();
        return lines;
    }

    public int fault(int what) {
        if (what == 0) {
            return reader.fault;
        }
        return what == 1 ? reader.faultPlace : NONE;
    }

    public int count(int what) {
        switch (what) {
            case 0:
            case 1:
            case 2:
                return scene.cellsAlong(what);
            case 3:
                return scene.kindCount;
            case 4:
                return scene.sourceCount;
            case 5:
                return scene.seed;
            case 6:
                return tapeLength;
            case 7:
                return out.length;
            default:
                return NONE;
        }
    }

    public int kind(int k, int what) {
        if (!scene.isKind(k) || what < 0 || what >= KIND_FIELDS) {
            return UNKNOWN;
        }
        return scene.ofKind(k, what);
    }

    public int source(int s, int what) {
        if (!scene.isSource(s) || what < 0 || what >= SOURCE_FIELDS) {
            return REFUSED;
        }
        return scene.ofSource(s, what);
    }

    // ---- what can be changed, and taken back ----

    public int seed(int n) {
        if (!scene.stands || n < 0 || n > MOST_SEED) {
            return REFUSED;
        }
        int was = scene.seed;
        if (n != was) {
            history.remember(NONE, 0, was);
            scene.seed = n;
            frame.forget();
        }
        return was;
    }

    public int sets(int k, int what, int v) {
        if (!scene.isKind(k) || what < LIFE || what > SIZE) {
            return UNKNOWN;
        }
        if (v < KIND_LEAST[what] || v > KIND_MOST[what]) {
            return UNKNOWN;
        }
        int was = scene.ofKind(k, what);
        if (v != was) {
            history.remember(k, what, was);
            scene.setKind(k, what, v);
            frame.forget();
        }
        return was;
    }

    public int undo() {
        if (!scene.stands) {
            return REFUSED;
        }
        if (history.isEmpty()) {
            return NONE;
        }
        history.takeBack(scene);
        frame.forget();
        return history.length;
    }

    // ---- a spark by its number ----

    public long mixed(int code, int salt) {
        return scene.stands ? scene.mix(code, salt) : 0L;
    }

    public int is(int code) {
        if (!scene.stands) {
            return REFUSED;
        }
        return scene.hasSpark(code) ? 1 : 0;
    }

    public int child(int code, int c) {
        if (!scene.hasSpark(code)) {
            return REFUSED;
        }
        int generation = generationOf(code);
        if (generation == 2 || c < 0 || c >= scene.ofKind(scene.kindOfSpark(code), CHILDS)) {
            return NONE;
        }
        return codeOfChild(code, generation, c);
    }

    public int parent(int code) {
        if (!scene.hasSpark(code)) {
            return REFUSED;
        }
        return codeOfParent(code);
    }

    public int spark(int code, int what) {
        Spark it = finder.find(code);
        if (it == null) {
            return UNKNOWN;
        }
        switch (what) {
            case 0:
                return it.kind;
            case 1:
                return sourceOf(code);
            case 2:
                return numberOf(code);
            case 3:
                return it.generation;
            case 4:
                return scene.colourOf(code);
            case 5:
                return it.born;
            case 6:
                return it.ends;
            case 7:
            case 8:
            case 9:
                return it.speedAlong(what - 7);
            default:
                return UNKNOWN;
        }
    }

    public int place(int code, int tick, int what) {
        Spark it = finder.find(code);
        if (it == null || !isTick(tick) || !isAxis(what)) {
            return REFUSED;
        }
        return it.isThere(tick) ? it.placeAt(what, tick - it.born) : NONE;
    }

    public int size(int code, int tick) {
        Spark it = finder.find(code);
        if (it == null || !isTick(tick)) {
            return REFUSED;
        }
        if (!it.isThere(tick)) {
            return NONE;
        }
        int age = tick - it.born;
        int stay = Math.max(1, it.ends - it.born);
        return Math.max(1, scene.ofKind(it.kind, SIZE) - 4 * age / stay);
    }

    public int edges(int code) {
        Spark it = finder.find(code);
        if (it == null) {
            return REFUSED;
        }
        int often = 0;
        for (int age = 1; age < it.ends - it.born; age++) {
            often += it.edgesAt(age);
        }
        return often;
    }

    public int over(int code) {
        Spark it = finder.find(code);
        if (it == null) {
            return REFUSED;
        }
        for (int age = 1; age < it.ends - it.born; age++) {
            if (it.edgesAt(age) > 0) {
                return it.born + age;
            }
        }
        return NONE;
    }

    public int reach(int code, int what, int end) {
        Spark it = finder.find(code);
        if (it == null || !isAxis(what) || end < 0 || end > 1) {
            return REFUSED;
        }
        int best = it.placeAt(what, 0);
        for (int age = 1; age < it.ends - it.born; age++) {
            int here = it.placeAt(what, age);
            best = end == 0 ? Math.min(best, here) : Math.max(best, here);
        }
        return best;
    }

    public int cellsOf(int code) {
        Spark it = finder.find(code);
        if (it == null) {
            return REFUSED;
        }
        int unlike = 0;
        for (int age = 0; age < it.ends - it.born; age++) {
            int cell = it.cellAt(age);
            if (unlike < counts.length && !isAmong(cell, unlike)) {
                counts[unlike] = cell;
                unlike++;
            }
        }
        return unlike;
    }

    private boolean isAmong(int cell, int length) {
        for (int i = 0; i < length && i < counts.length; i++) {
            if (counts[i] == cell) {
                return true;
            }
        }
        return false;
    }

    public int meets(int code, int other) {
        Spark one = finder.find(code);
        Spark two = otherFinder.find(other);
        if (one == null || two == null || code == other) {
            return REFUSED;
        }
        int until = Math.min(one.ends, two.ends);
        for (int tick = Math.max(one.born, two.born); tick < until; tick++) {
            if (one.cellAt(tick - one.born) == two.cellAt(tick - two.born)) {
                return tick;
            }
        }
        return NONE;
    }

    public int kin(int code, int other) {
        if (!scene.hasSpark(code) || !scene.hasSpark(other)) {
            return REFUSED;
        }
        if (code == other) {
            return code;
        }
        if ((code >> 4) == (other >> 4)) {
            return code & ~15;
        }
        return (code >> 8) == (other >> 8) ? code & ~255 : NONE;
    }

    public int line(int code, int what) {
        if (!scene.hasSpark(code) || what < 0 || what > 1) {
            return REFUSED;
        }
        walk.startWithRoot(sourceOf(code), numberOf(code));
        int many = 0;
        int last = 0;
        if (walk.stepRoot()) {
            for (int j = 0; j < walk.showing; j++) {
                Spark it = walk.shown(j);
                if (comesOf(it.code, code)) {
                    many++;
                    last = Math.max(last, it.ends);
                }
            }
        }
        return what == 0 ? many : last;
    }

    public int tell(int code) {
        Spark it = finder.find(code);
        if (it == null) {
            return REFUSED;
        }
        out.clear();
        out.put('a' + it.kind);
        out.putNumber(sourceOf(code));
        out.putNumber(numberOf(code));
        if (it.generation > 0) {
            out.put('.');
            out.putNumber(((code >> 4) & 15) - 1);
        }
        if (it.generation > 1) {
            out.put('.');
            out.putNumber((code & 15) - 1);
        }
        out.put(' ');
        out.putNumber(it.born);
        out.put('-');
        out.putNumber(it.ends);
        for (int axis = 0; axis < 3; axis++) {
            out.put(' ');
            out.putNumber(it.placeAt(axis, 0));
        }
        return out.length;
    }

    public int octet(int i) {
        return out.byteAt(i);
    }

    // ---- a source's births ----

    public int births(int s, int a, int b) {
        if (!scene.isSource(s) || !isWindow(a, b)) {
            return REFUSED;
        }
        return scene.bornBefore(s, b) - scene.bornBefore(s, a);
    }

    public int bornAs(int s, int n) {
        if (!scene.isSource(s) || n < 0) {
            return REFUSED;
        }
        return n < scene.ofSource(s, ROOTS) ? scene.codeOfBirth(s, n) : NONE;
    }

    public int latest(int s, int tick) {
        if (!scene.isSource(s) || !isTick(tick)) {
            return REFUSED;
        }
        int born = scene.bornBefore(s, tick + 1);
        return born > 0 ? scene.codeOfBirth(s, born - 1) : NONE;
    }

    public int next(int s, int tick) {
        if (!scene.isSource(s) || !isTick(tick)) {
            return REFUSED;
        }
        int born = scene.bornBefore(s, tick);
        return born < scene.ofSource(s, ROOTS) ? scene.tickOfBirth(s, born) : NONE;
    }

    public int lull(int s, int a, int b, int what) {
        if (!scene.isSource(s) || !isWindow(a, b) || a == b || b - a > LONGEST_LULL || what < 0 || what > 1) {
            return REFUSED;
        }
        scene.countBirths(s, a, b, counts);
        int longest = 0;
        int first = NONE;
        int row = 0;
        for (int i = 0; i < b - a && i < counts.length; i++) {
            row = counts[i] == 0 ? row + 1 : 0;
            if (row > longest) {
                longest = row;
                first = a + i - row + 1;
            }
        }
        return what == 0 ? longest : first;
    }

    // ---- windows of ticks ----

    public int endings(int a, int b) {
        if (!isWindow(a, b) || b - a > 300) {
            return REFUSED;
        }
        int many = 0;
        // What ends in a was last there in the tick ahead of it.
        walk.start(a - 1, b);
        for (int i = 0; i < MANY && walk.stepRoot(); i++) {
            for (int j = 0; j < walk.showing; j++) {
                int ends = walk.shown(j).ends;
                if (ends >= a && ends < b) {
                    many++;
                }
            }
        }
        return many;
    }

    public int peak(int a, int b, int what) {
        if (!isWindow(a, b) || a == b || b - a > 60 || what < 0 || what > 1) {
            return REFUSED;
        }
        countComingAndGoing(a, b);
        int there = 0;
        int most = NONE;
        int first = a;
        for (int tick = a; tick < b && tick - a < counts.length; tick++) {
            there += counts[tick - a];
            if (there > most) {
                most = there;
                first = tick;
            }
        }
        return what == 0 ? first : most;
    }

    private void countComingAndGoing(int a, int b) {
        Arrays.fill(counts, 0);
        walk.start(a, b);
        for (int i = 0; i < MANY && walk.stepRoot(); i++) {
            for (int j = 0; j < walk.showing; j++) {
                Spark it = walk.shown(j);
                int from = Math.max(it.born, a) - a;
                int until = Math.min(it.ends, b) - a;
                if (from >= 0 && from < until && until < counts.length) {
                    counts[from]++;
                    counts[until]--;
                }
            }
        }
    }

    public int firstIn(int tick, int x, int y) {
        if (!isTick(tick) || !scene.isCell(0, x) || !scene.isCell(1, y)) {
            return REFUSED;
        }
        int until = Math.min(tick + 100, LAST_TICK + 1);
        int first = until;
        walk.start(tick, until);
        for (int i = 0; i < MANY && walk.stepRoot(); i++) {
            for (int j = 0; j < walk.showing; j++) {
                first = walk.shown(j).firstInColumn(tick, first, x, y);
            }
        }
        return first < until ? first : NONE;
    }

    public int flux(int a, int b, int n, int way) {
        if (!isWindow(a, b) || b - a > 60 || n < 1 || n >= scene.cellsAlong(0) || way < 0 || way > 1) {
            return REFUSED;
        }
        int often = 0;
        walk.start(a, b);
        for (int i = 0; i < MANY && walk.stepRoot(); i++) {
            for (int j = 0; j < walk.showing; j++) {
                often += walk.shown(j).crossings(a, b, n * EIGHTHS, way == 1);
            }
        }
        return often;
    }

    // ---- frames ----

    public int many(int tick, int what) {
        if (what != NONE && !scene.isKind(what) || !frame.shows(tick)) {
            return REFUSED;
        }
        if (what == NONE) {
            return frame.length;
        }
        int many = 0;
        for (int i = 0; i < frame.length; i++) {
            if (frame.kindOf(i) == what) {
                many++;
            }
        }
        return many;
    }

    public int drawn(int tick, int k) {
        if (k < 0 || !frame.shows(tick)) {
            return REFUSED;
        }
        return k < frame.length ? frame.codeOf(frame.rowAt(k)) : NONE;
    }

    public long digest(int tick) {
        if (!frame.shows(tick)) {
            return 0L;
        }
        long number = 17L;
        for (int i = 0; i < frame.length; i++) {
            int row = frame.rowAt(i);
            number = 31L * number + frame.codeOf(row);
            for (int axis = 0; axis < 3; axis++) {
                number = 31L * number + frame.placeOf(row, axis);
            }
        }
        return number;
    }

    public int inColumn(int tick, int x, int y) {
        if (!scene.isCell(0, x) || !scene.isCell(1, y) || !frame.shows(tick)) {
            return REFUSED;
        }
        int many = 0;
        for (int i = 0; i < frame.length; i++) {
            if (frame.isInColumn(i, x, y)) {
                many++;
            }
        }
        return many;
    }

    public int top(int tick, int x, int y) {
        if (!scene.isCell(0, x) || !scene.isCell(1, y) || !frame.shows(tick)) {
            return REFUSED;
        }
        return frame.fromTop(x, y, 0);
    }

    public int below(int tick, int x, int y, int k) {
        if (k < 0 || !scene.isCell(0, x) || !scene.isCell(1, y) || !frame.shows(tick)) {
            return REFUSED;
        }
        return frame.fromTop(x, y, k);
    }

    public int fullest(int tick, int what) {
        if (what < 0 || what > 2 || !frame.shows(tick)) {
            return REFUSED;
        }
        if (frame.length == 0) {
            return NONE;
        }
        frame.countColumns(counts);
        int best = 0;
        // The columns stand in the row by y, then x: the first of like ones wins.
        for (int i = 1; i < MOST_CELLS * MOST_CELLS && i < counts.length; i++) {
            if (counts[i] > counts[best]) {
                best = i;
            }
        }
        if (what == 2) {
            return counts[best];
        }
        return what == 0 ? best % MOST_CELLS : best / MOST_CELLS;
    }

    public int columns(int tick) {
        if (!frame.shows(tick)) {
            return REFUSED;
        }
        frame.countColumns(counts);
        int many = 0;
        for (int i = 0; i < MOST_CELLS * MOST_CELLS && i < counts.length; i++) {
            if (counts[i] > 0) {
                many++;
            }
        }
        return many;
    }

    public int nearest(int tick, int x, int y, int z) {
        if (!scene.isCellOfWorld(x, y, z) || !frame.shows(tick)) {
            return REFUSED;
        }
        int best = NONE;
        int least = 0;
        for (int i = 0; i < frame.length; i++) {
            int far = frame.farSquared(i, x, y, z);
            // The rows stand by code: the first of like ones has the least.
            if (best == NONE || far < least) {
                best = frame.codeOf(i);
                least = far;
            }
        }
        return best;
    }

    public int within(int tick, int x, int y, int z, int r) {
        if (r < 0 || r > 600 || !scene.isCellOfWorld(x, y, z) || !frame.shows(tick)) {
            return REFUSED;
        }
        int many = 0;
        for (int i = 0; i < frame.length; i++) {
            if (frame.farSquared(i, x, y, z) <= r * r) {
                many++;
            }
        }
        return many;
    }

    public long twos(int tick) {
        if (!frame.shows(tick)) {
            return REFUSED;
        }
        return frame.countTwos(counts);
    }

    public int box(int tick, int what) {
        if (what < 0 || what > 5 || !frame.shows(tick)) {
            return REFUSED;
        }
        if (frame.length == 0) {
            return NONE;
        }
        int best = frame.placeOf(0, what % 3);
        for (int i = 1; i < frame.length; i++) {
            int here = frame.placeOf(i, what % 3);
            best = what < 3 ? Math.min(best, here) : Math.max(best, here);
        }
        return best / EIGHTHS;
    }

    public int middle(int tick, int what) {
        if (!isAxis(what) || !frame.shows(tick)) {
            return REFUSED;
        }
        if (frame.length <= 0) {
            return NONE;
        }
        int sum = 0;
        for (int i = 0; i < frame.length; i++) {
            sum += frame.placeOf(i, what);
        }
        return sum / frame.length;
    }

    public int both(int tick, int other) {
        if (!isTick(other) || !frame.shows(tick)) {
            return REFUSED;
        }
        int many = 0;
        for (int i = 0; i < frame.length; i++) {
            if (frame.bornOf(i) <= other && other < frame.endOf(i)) {
                many++;
            }
        }
        return many;
    }

    public int ofAge(int tick, int generation, int what) {
        if (generation < 0 || generation >= GENERATIONS || what < 0 || what > 2 || !frame.shows(tick)) {
            return REFUSED;
        }
        int many = 0;
        int ages = 0;
        int eldest = NONE;
        int firstBorn = 0;
        for (int i = 0; i < frame.length; i++) {
            if (generationOf(frame.codeOf(i)) == generation) {
                many++;
                int born = frame.bornOf(i);
                ages += tick - born;
                if (eldest == NONE || born < firstBorn) {
                    eldest = frame.codeOf(i);
                    firstBorn = born;
                }
            }
        }
        if (what == 2) {
            return eldest;
        }
        return what == 0 ? many : ages;
    }

    public int colours(int tick, int colour) {
        if (colour < 0 || colour >= COLOURS || !frame.shows(tick)) {
            return REFUSED;
        }
        int many = 0;
        for (int i = 0; i < frame.length; i++) {
            if (scene.colourOf(frame.codeOf(i)) == colour) {
                many++;
            }
        }
        return many;
    }

    public int twins(int tick) {
        if (!frame.shows(tick)) {
            return REFUSED;
        }
        int many = 0;
        for (int i = 0; i < frame.length; i++) {
            int parent = codeOfParent(frame.codeOf(i));
            // The rows stand by code, so a twin is among the next of its root.
            for (int j = i + 1; parent != NONE && j < frame.length && j < i + LINE_SPARKS; j++) {
                if (codeOfParent(frame.codeOf(j)) == parent) {
                    many += 2;
                }
            }
        }
        return many;
    }

    // ---- pictures ----

    public int picture(int tick) {
        if (!frame.shows(tick)) {
            return REFUSED;
        }
        frame.markTops(counts);
        out.clear();
        for (int y = 0; y < scene.cellsAlong(1); y++) {
            for (int x = 0; x < scene.cellsAlong(0); x++) {
                int mark = countOfColumn(x, y);
                out.put(mark > 0 ? '0' + scene.colourOf(frame.codeOf(mark - 1)) : '.');
            }
            out.put('\n');
        }
        return out.length;
    }

    public int layer(int tick, int z) {
        if (!scene.isCell(2, z) || !frame.shows(tick)) {
            return REFUSED;
        }
        frame.countLayer(z, counts);
        out.clear();
        for (int y = 0; y < scene.cellsAlong(1); y++) {
            for (int x = 0; x < scene.cellsAlong(0); x++) {
                int many = countOfColumn(x, y);
                out.put(many > 0 ? '0' + Math.min(9, many) : '.');
            }
            out.put('\n');
        }
        return out.length;
    }

    private int countOfColumn(int x, int y) {
        int column = columnAt(x, y);
        return column >= 0 && column < counts.length ? counts[column] : 0;
    }

    // ---- what all of them ask ----

    private static boolean isTick(int tick) {
        return tick >= 0 && tick <= LAST_TICK;
    }

    private static boolean isAxis(int what) {
        return what >= 0 && what <= 2;
    }

    /** A column's place in a row of all columns, which stand by y, then x. */
    private static int columnAt(int x, int y) {
        return y * MOST_CELLS + x;
    }

    private boolean isWindow(int a, int b) {
        return scene.stands && a >= 0 && a <= b && b <= LAST_TICK + 1;
    }

    private static int sourceOf(int code) {
        return (code >> 8) & 3;
    }

    private static int numberOf(int code) {
        return code >> 10;
    }

    private static int codeOfRoot(int s, int k) {
        return 256 * (4 * k + s);
    }

    private static int generationOf(int code) {
        if ((code & 15) != 0) {
            return 2;
        }
        return (code & 255) != 0 ? 1 : 0;
    }

    private static int codeOfChild(int code, int generation, int c) {
        return code + (generation == 0 ? 16 : 1) * (1 + c);
    }

    private static int codeOfParent(int code) {
        if ((code & 15) != 0) {
            return code & ~15;
        }
        return (code & 255) != 0 ? code & ~255 : NONE;
    }

    private static boolean comesOf(int code, int elder) {
        int generation = generationOf(elder);
        int own = generation == 0 ? 255 : generation == 1 ? 15 : 0;
        return (code & ~own) == elder;
    }

    /** What a text tells, and what follows of it for sources and their roots. */
    private static final class Scene {
        private final int[] cells = new int[3];
        private final int[] kinds = new int[MOST_KINDS * KIND_FIELDS];
        private final int[] sources = new int[MOST_SOURCES * SOURCE_FIELDS];
        int kindCount;
        int sourceCount;
        int seed;
        boolean seedTold;
        boolean stands;

        void clear() {
            Arrays.fill(cells, 0);
            Arrays.fill(kinds, 0);
            Arrays.fill(sources, 0);
            kindCount = 0;
            sourceCount = 0;
            seed = 0;
            seedTold = false;
        }

        void become(Scene other) {
            System.arraycopy(other.cells, 0, cells, 0, cells.length);
            System.arraycopy(other.kinds, 0, kinds, 0, kinds.length);
            System.arraycopy(other.sources, 0, sources, 0, sources.length);
            kindCount = other.kindCount;
            sourceCount = other.sourceCount;
            seed = other.seed;
            stands = true;
        }

        int cellsAlong(int axis) {
            return axis >= 0 && axis < cells.length ? cells[axis] : 0;
        }

        void setCells(int axis, int many) {
            if (axis >= 0 && axis < cells.length) {
                cells[axis] = many;
            }
        }

        boolean isCell(int axis, int at) {
            return at >= 0 && at < cellsAlong(axis);
        }

        boolean isCellOfWorld(int x, int y, int z) {
            return isCell(0, x) && isCell(1, y) && isCell(2, z);
        }

        boolean isKind(int k) {
            return k >= 0 && k < kindCount;
        }

        boolean isSource(int s) {
            return s >= 0 && s < sourceCount;
        }

        int ofKind(int k, int what) {
            int at = k * KIND_FIELDS + what;
            return at >= 0 && at < kinds.length ? kinds[at] : 0;
        }

        void setKind(int k, int what, int v) {
            int at = k * KIND_FIELDS + what;
            if (at >= 0 && at < kinds.length) {
                kinds[at] = v;
            }
        }

        int ofSource(int s, int what) {
            int at = s * SOURCE_FIELDS + what;
            return at >= 0 && at < sources.length ? sources[at] : 0;
        }

        void setSource(int s, int what, int v) {
            int at = s * SOURCE_FIELDS + what;
            if (at >= 0 && at < sources.length) {
                sources[at] = v;
            }
        }

        long mix(int code, int salt) {
            long z = seed + code * -7046029254386353131L + salt * -3335678366873096957L;
            z = (z ^ (z >>> 30)) * -4658895280553007687L;
            z = (z ^ (z >>> 27)) * -7723592293110705685L;
            return z ^ (z >>> 31);
        }

        int draw(int code, int salt, int n) {
            return n > 1 ? (int) ((mix(code, salt) >>> 33) % n) : 0;
        }

        int colourOf(int code) {
            return draw(code, COLOUR_SALT, COLOURS);
        }

        boolean hasSpark(int code) {
            if (!stands || code < 0) {
                return false;
            }
            int s = sourceOf(code);
            if (!isSource(s) || numberOf(code) >= ofSource(s, ROOTS)) {
                return false;
            }
            int kind = ofSource(s, ITS_KIND);
            int first = (code >> 4) & 15;
            int second = code & 15;
            if (first == 0) {
                return second == 0;
            }
            if (first > ofKind(kind, CHILDS)) {
                return false;
            }
            return second <= ofKind(ofKind(kind, CHILD_KIND), CHILDS);
        }

        int kindOfSpark(int code) {
            int kind = ofSource(sourceOf(code), ITS_KIND);
            for (int i = 0; i < generationOf(code) && i < GENERATIONS; i++) {
                kind = ofKind(kind, CHILD_KIND);
            }
            return kind;
        }

        /** How many bursts a source plans for ticks up to this one. */
        int burstsUpTo(int s, int tick) {
            int from = ofSource(s, FROM);
            int last = Math.min(tick, ofSource(s, UNTIL));
            int every = ofSource(s, EVERY);
            return last < from || every < 1 ? 0 : (last - from) / every + 1;
        }

        int plannedTick(int s, int k) {
            int burst = Math.max(1, ofSource(s, BURST));
            return ofSource(s, FROM) + k / burst * ofSource(s, EVERY);
        }

        int birthTick(int s, int k) {
            return plannedTick(s, k) + draw(codeOfRoot(s, k), WHEN_SALT, ofSource(s, JITTER) + 1);
        }

        int bornBefore(int s, int tick) {
            int burst = ofSource(s, BURST);
            int surely = burstsUpTo(s, tick - 1 - ofSource(s, JITTER)) * burst;
            int planned = burstsUpTo(s, tick - 1) * burst;
            int born = surely;
            for (int k = surely; k < planned; k++) {
                if (birthTick(s, k) < tick) {
                    born++;
                }
            }
            return born;
        }

        /** The tick of the n-th birth: jitter moves it by no more than itself. */
        int tickOfBirth(int s, int n) {
            int low = plannedTick(s, n);
            int high = low + ofSource(s, JITTER);
            for (int i = 0; i < 32 && low < high; i++) {
                int half = (low + high) / 2;
                if (bornBefore(s, half + 1) > n) {
                    high = half;
                } else {
                    low = half + 1;
                }
            }
            return low;
        }

        int codeOfBirth(int s, int n) {
            int tick = tickOfBirth(s, n);
            int ahead = n - bornBefore(s, tick);
            int burst = ofSource(s, BURST);
            int planned = burstsUpTo(s, tick) * burst;
            for (int k = burstsUpTo(s, tick - 1 - ofSource(s, JITTER)) * burst; k < planned; k++) {
                if (birthTick(s, k) == tick) {
                    if (ahead == 0) {
                        return codeOfRoot(s, k);
                    }
                    ahead--;
                }
            }
            return NONE;
        }

        /** Counts a source's births from a to below b into the first of a row. */
        void countBirths(int s, int a, int b, int[] row) {
            Arrays.fill(row, 0);
            int burst = ofSource(s, BURST);
            int planned = burstsUpTo(s, b - 1) * burst;
            for (int k = burstsUpTo(s, a - 1 - ofSource(s, JITTER)) * burst; k < planned; k++) {
                int at = birthTick(s, k) - a;
                if (at >= 0 && at < row.length) {
                    row[at]++;
                }
            }
        }
    }

    /** Reads a text into a draft of a scene, up to its first fault. */
    private static final class Reader {
        private static final int END_TOKEN = 0;
        private static final int WORD = 1;
        private static final int NUMBER = 2;
        private static final int SIGN = 3;
        private static final int MISPLACED = 1;
        private static final int OUT_OF_BOUNDS = 2;
        private static final int TOO_MANY = 3;
        // Above every bound, low enough to take one more digit.
        private static final int HUGE = 100000000;

        final Scene draft = new Scene();
        int fault;
        int faultPlace = NONE;
        private int[] text = new int[0];
        private int length;
        private int token;
        private int start;
        private int beyond;
        private int value;

        /** How many lines, or NONE behind a fault. */
        int read(int[] tape, int tapeLength) {
            text = tape;
            length = Math.min(tapeLength, tape.length);
            draft.clear();
            fault = 0;
            faultPlace = NONE;
            beyond = 0;
            advance();
            readWorld();
            int lines = 1;
            for (int i = 0; i < TAPE_BYTES && fault == 0 && token != END_TOKEN; i++) {
                if (isWord("seed")) {
                    readSeed();
                } else if (isWord("kind")) {
                    readKind();
                } else if (isWord("source")) {
                    readSource();
                } else {
                    fail(MISPLACED);
                }
                needSign(';');
                lines++;
            }
            return fault == 0 ? lines : NONE;
        }

        private void readWorld() {
            needWord("world");
            for (int axis = 0; axis < 3; axis++) {
                draft.setCells(axis, needNumber(1, MOST_CELLS));
            }
            needSign(';');
        }

        private void readSeed() {
            if (draft.seedTold) {
                fail(TOO_MANY);
                return;
            }
            advance();
            draft.seedTold = true;
            draft.seed = needNumber(0, MOST_SEED);
        }

        private void readKind() {
            int k = draft.kindCount;
            if (k >= MOST_KINDS) {
                fail(TOO_MANY);
                return;
            }
            advance();
            needWord("life");
            draft.setKind(k, LIFE, needNumber(1, 40));
            draft.setKind(k, VARY, numberBehind("vary", 0, 20, 0));
            draft.setKind(k, SPEED, numberBehind("speed", 0, 20, 0));
            draft.setKind(k, FALLS, readFalls());
            draft.setKind(k, SIZE, numberBehind("size", 1, 9, 1));
            draft.setKind(k, EDGE, readEdge());
            draft.setKind(k, CHILDS, numberBehind("childs", 1, MOST_CHILDS, 0));
            draft.setKind(k, CHILD_KIND, NONE);
            if (draft.ofKind(k, CHILDS) > 0) {
                needWord("of");
                draft.setKind(k, CHILD_KIND, needNumber(0, k - 1));
            }
            draft.kindCount++;
        }

        private int readFalls() {
            if (!takeWord("falls")) {
                return 0;
            }
            boolean upwards = fault == 0 && token == SIGN && value == '-';
            if (upwards) {
                advance();
            }
            int falls = needNumber(0, 9);
            return upwards ? -falls : falls;
        }

        private int readEdge() {
            if (takeWord("bounce")) {
                return BOUNCE;
            }
            if (takeWord("ends")) {
                return ENDS;
            }
            takeWord("wrap");
            return WRAP;
        }

        private void readSource() {
            int s = draft.sourceCount;
            if (s >= MOST_SOURCES) {
                fail(TOO_MANY);
                return;
            }
            advance();
            draft.setSource(s, ITS_KIND, needNumber(0, draft.kindCount - 1));
            needWord("at");
            for (int axis = 0; axis < 3; axis++) {
                draft.setSource(s, ITS_CELL + axis, needNumber(0, draft.cellsAlong(axis) - 1));
            }
            needWord("from");
            draft.setSource(s, FROM, needNumber(0, MOST_TICK_TOLD));
            needWord("every");
            draft.setSource(s, EVERY, needNumber(1, 99));
            draft.setSource(s, BURST, numberBehind("burst", 1, 5, 1));
            draft.setSource(s, UNTIL, numberBehind("until", 0, MOST_TICK_TOLD, MOST_TICK_TOLD));
            draft.setSource(s, JITTER, numberBehind("jitter", 0, 20, 0));
            int bursts = draft.burstsUpTo(s, draft.ofSource(s, UNTIL));
            draft.setSource(s, ROOTS, bursts * draft.ofSource(s, BURST));
            draft.sourceCount++;
        }

        private int numberBehind(String word, int least, int most, int without) {
            return takeWord(word) ? needNumber(least, most) : without;
        }

        private boolean isWord(String word) {
            if (fault != 0 || token != WORD || beyond - start != word.length()) {
                return false;
            }
            for (int i = 0; i < word.length(); i++) {
                if (byteAt(start + i) != word.charAt(i)) {
                    return false;
                }
            }
            return true;
        }

        private boolean takeWord(String word) {
            if (!isWord(word)) {
                return false;
            }
            advance();
            return true;
        }

        private void needWord(String word) {
            if (!takeWord(word)) {
                fail(MISPLACED);
            }
        }

        private void needSign(char sign) {
            if (fault == 0 && token == SIGN && value == sign) {
                advance();
            } else {
                fail(MISPLACED);
            }
        }

        private int needNumber(int least, int most) {
            if (token != NUMBER) {
                fail(MISPLACED);
                return 0;
            }
            int number = value;
            if (number < least || number > most) {
                fail(OUT_OF_BOUNDS);
                return 0;
            }
            if (fault == 0) {
                advance();
            }
            return number;
        }

        private void fail(int number) {
            if (fault == 0) {
                fault = number;
                faultPlace = start;
            }
        }

        private int byteAt(int i) {
            return i >= 0 && i < length && i < text.length ? text[i] : NONE;
        }

        private static boolean isLetter(int sign) {
            return sign >= 'a' && sign <= 'z';
        }

        private static boolean isDigit(int sign) {
            return sign >= '0' && sign <= '9';
        }

        private void advance() {
            start = beyond;
            while (start < length && (byteAt(start) == ' ' || byteAt(start) == '\n')) {
                start++;
            }
            beyond = start;
            value = byteAt(start);
            if (start >= length) {
                token = END_TOKEN;
            } else if (isLetter(value)) {
                token = WORD;
                while (beyond < length && isLetter(byteAt(beyond))) {
                    beyond++;
                }
            } else if (isDigit(value)) {
                token = NUMBER;
                value = 0;
                while (beyond < length && isDigit(byteAt(beyond))) {
                    value = Math.min(HUGE, value * 10 + byteAt(beyond) - '0');
                    beyond++;
                }
            } else {
                token = SIGN;
                beyond++;
            }
        }
    }

    /** One spark: begun as a root's own or as a child, then sent off by fly(). */
    private static final class Spark {
        private final Scene scene;
        private final int[] start = new int[3];
        private final int[] speed = new int[3];
        int code;
        int kind;
        int generation;
        int born;
        // Until fly() has looked at the edges, when it ends without them.
        int ends;
        private int falls;
        private int edge;

        Spark(Scene scene) {
            this.scene = scene;
        }

        void beginAtSource(int s, int k, int tick) {
            code = codeOfRoot(s, k);
            kind = scene.ofSource(s, ITS_KIND);
            generation = 0;
            born = tick;
            ends = born + scene.ofKind(kind, LIFE) + scene.draw(code, LIFE_SALT, scene.ofKind(kind, VARY) + 1);
            for (int axis = 0; axis < 3; axis++) {
                start[axis] = EIGHTHS * scene.ofSource(s, ITS_CELL + axis) + EIGHTHS / 2;
            }
        }

        void beginAsChild(Spark parent, int c) {
            code = codeOfChild(parent.code, parent.generation, c);
            kind = scene.ofKind(parent.kind, CHILD_KIND);
            generation = parent.generation + 1;
            born = parent.ends;
            ends = born + scene.ofKind(kind, LIFE) + scene.draw(code, LIFE_SALT, scene.ofKind(kind, VARY) + 1);
            for (int axis = 0; axis < 3; axis++) {
                start[axis] = parent.placeAt(axis, parent.ends - 1 - parent.born);
            }
        }

        void fly() {
            falls = scene.ofKind(kind, FALLS);
            edge = scene.ofKind(kind, EDGE);
            int most = scene.ofKind(kind, SPEED);
            for (int axis = 0; axis < 3; axis++) {
                speed[axis] = scene.draw(code, SPEED_SALT + axis, 2 * most + 1) - most;
            }
            if (edge == ENDS) {
                for (int axis = 0; axis < 3; axis++) {
                    ends = Math.min(ends, born + ageBeyond(axis, ends - born));
                }
            }
        }

        /** The first age at which it would be beyond, or the limit, if that is sooner. */
        private int ageBeyond(int axis, int limit) {
            int world = scene.cellsAlong(axis) * EIGHTHS;
            int at = start[axis];
            int step = speed[axis];
            int faster = axis == 1 ? falls : 0;
            if (step == 0 && faster == 0) {
                return limit;
            }
            for (int age = 1; age < limit; age++) {
                at += step;
                step += faster;
                if (at < 0 || at >= world) {
                    return age;
                }
            }
            return limit;
        }

        int speedAlong(int axis) {
            return axis >= 0 && axis < speed.length ? speed[axis] : 0;
        }

        boolean isThere(int tick) {
            return born <= tick && tick < ends;
        }

        /** Where it would be without edges. */
        private int freePlace(int axis, int age) {
            if (axis < 0 || axis >= start.length) {
                return 0;
            }
            int at = start[axis] + age * speed[axis];
            return axis == 1 ? at + falls * age * (age - 1) / 2 : at;
        }

        int placeAt(int axis, int age) {
            int at = freePlace(axis, age);
            int world = scene.cellsAlong(axis) * EIGHTHS;
            if (at >= 0 && at < world || world < 1 || edge == ENDS) {
                return at;
            }
            if (edge == WRAP) {
                return Math.floorMod(at, world);
            }
            int folded = Math.floorMod(at, 2 * world);
            return folded < world ? folded : 2 * world - 1 - folded;
        }

        /** A number of its cell, another one for each cell. */
        int cellAt(int age) {
            int x = placeAt(0, age) / EIGHTHS;
            int y = placeAt(1, age) / EIGHTHS;
            int z = placeAt(2, age) / EIGHTHS;
            return (z * MOST_CELLS + y) * MOST_CELLS + x;
        }

        /** How often it came over edges since the age ahead. */
        int edgesAt(int age) {
            int often = 0;
            for (int axis = 0; axis < 3 && edge != ENDS; axis++) {
                int world = Math.max(1, scene.cellsAlong(axis) * EIGHTHS);
                int now = Math.floorDiv(freePlace(axis, age), world);
                int ahead = Math.floorDiv(freePlace(axis, age - 1), world);
                often += Math.abs(now - ahead);
            }
            return often;
        }

        /** The first tick from a to below b in which it is in a column, b without one. */
        int firstInColumn(int a, int b, int x, int y) {
            int until = Math.min(b, ends);
            for (int tick = Math.max(a, born); tick < until; tick++) {
                int age = tick - born;
                if (placeAt(0, age) / EIGHTHS == x && placeAt(1, age) / EIGHTHS == y) {
                    return tick;
                }
            }
            return b;
        }

        /** How often, from a to below b, it goes over a line of x, upwards or back. */
        int crossings(int a, int b, int line, boolean upwards) {
            int until = Math.min(b, ends);
            int from = Math.max(a, born + 1);
            if (from >= until) {
                return 0;
            }
            int often = 0;
            boolean above = placeAt(0, from - 1 - born) >= line;
            for (int tick = from; tick < until; tick++) {
                boolean aboveNow = placeAt(0, tick - born) >= line;
                if (aboveNow != above && aboveNow == upwards) {
                    often++;
                }
                above = aboveNow;
            }
            return often;
        }
    }

    /** Finds a spark by its code alone, through its parents. */
    private static final class Finder {
        private final Scene scene;
        private final Spark own;
        private final Spark child;
        private final Spark grandchild;

        Finder(Scene scene) {
            this.scene = scene;
            own = new Spark(scene);
            child = new Spark(scene);
            grandchild = new Spark(scene);
        }

        /** Null, if there is no such spark; what it answers stands until the next call. */
        Spark find(int code) {
            if (!scene.hasSpark(code)) {
                return null;
            }
            int s = sourceOf(code);
            int k = numberOf(code);
            own.beginAtSource(s, k, scene.birthTick(s, k));
            own.fly();
            int generation = generationOf(code);
            if (generation == 0) {
                return own;
            }
            child.beginAsChild(own, ((code >> 4) & 15) - 1);
            child.fly();
            if (generation == 1) {
                return child;
            }
            grandchild.beginAsChild(child, (code & 15) - 1);
            grandchild.fly();
            return grandchild;
        }
    }

    /** Steps, root by root in the order of codes, over the sparks that are there in a window of ticks. */
    private static final class Walk {
        private final Scene scene;
        private final Spark[] line = new Spark[LINE_SPARKS];
        private final int[] shownRows = new int[LINE_SPARKS];
        private final int[] nextRoot = new int[MOST_SOURCES];
        private final int[] beyondRoots = new int[MOST_SOURCES];
        // By generation and kind: how long a spark and what comes of it can last.
        private final int[] spans = new int[GENERATIONS * MOST_KINDS];
        private int first;
        private int beyond;
        int showing;

        Walk(Scene scene) {
            this.scene = scene;
            for (int i = 0; i < LINE_SPARKS; i++) {
                line[i] = new Spark(scene);
            }
        }

        /** From tick a to below b. */
        void start(int a, int b) {
            first = a;
            beyond = b;
            measureSpans();
            for (int s = 0; s < MOST_SOURCES; s++) {
                nextRoot[s] = 0;
                beyondRoots[s] = 0;
                if (scene.isSource(s)) {
                    int burst = scene.ofSource(s, BURST);
                    int span = spanOf(0, scene.ofSource(s, ITS_KIND));
                    nextRoot[s] = scene.burstsUpTo(s, a - scene.ofSource(s, JITTER) - span) * burst;
                    beyondRoots[s] = scene.burstsUpTo(s, b - 1) * burst;
                }
            }
        }

        /** All of one root, whenever it is there. */
        void startWithRoot(int s, int k) {
            start(0, LAST_TICK + 1);
            for (int i = 0; i < MOST_SOURCES; i++) {
                nextRoot[i] = i == s ? k : 0;
                beyondRoots[i] = i == s ? k + 1 : 0;
            }
        }

        private void measureSpans() {
            for (int generation = GENERATIONS - 1; generation >= 0; generation--) {
                for (int k = 0; k < scene.kindCount && k < MOST_KINDS; k++) {
                    int longest = scene.ofKind(k, LIFE) + scene.ofKind(k, VARY);
                    spans[generation * MOST_KINDS + k] = longest + spanBehind(generation, k);
                }
            }
        }

        private int spanOf(int generation, int k) {
            int at = generation * MOST_KINDS + k;
            return at >= 0 && at < spans.length ? spans[at] : 0;
        }

        private int spanBehind(int generation, int k) {
            if (generation >= GENERATIONS - 1 || scene.ofKind(k, CHILDS) < 1) {
                return 0;
            }
            return spanOf(generation + 1, scene.ofKind(k, CHILD_KIND));
        }

        /** False, if no root is left; a root may show none. */
        boolean stepRoot() {
            showing = 0;
            int s = sourceOfLeastRoot();
            if (s == NONE) {
                return false;
            }
            int k = nextRoot[s];
            nextRoot[s]++;
            Spark own = line[0];
            own.beginAtSource(s, k, scene.birthTick(s, k));
            if (isOutside(own)) {
                return true;
            }
            own.fly();
            show(0);
            int childs = scene.ofKind(own.kind, CHILDS);
            for (int c = 0; c < childs && c < MOST_CHILDS; c++) {
                int row = 1 + c * (1 + MOST_CHILDS);
                stepChild(own, c, row);
            }
            return true;
        }

        private void stepChild(Spark own, int c, int row) {
            if (row < 0 || row + MOST_CHILDS >= LINE_SPARKS) {
                return;
            }
            Spark child = line[row];
            child.beginAsChild(own, c);
            if (isOutside(child)) {
                return;
            }
            child.fly();
            show(row);
            int childs = scene.ofKind(child.kind, CHILDS);
            for (int i = 0; i < childs && i < MOST_CHILDS; i++) {
                Spark grandchild = line[row + 1 + i];
                grandchild.beginAsChild(child, i);
                if (!isOutside(grandchild)) {
                    grandchild.fly();
                    show(row + 1 + i);
                }
            }
        }

        /** Whether neither it nor what comes of it can be there in the window. */
        private boolean isOutside(Spark it) {
            return it.born >= beyond || it.ends + spanBehind(it.generation, it.kind) <= first;
        }

        private void show(int row) {
            if (row < 0 || row >= LINE_SPARKS || showing < 0 || showing >= LINE_SPARKS) {
                return;
            }
            if (line[row].born < beyond && line[row].ends > first) {
                shownRows[showing] = row;
                showing++;
            }
        }

        private int sourceOfLeastRoot() {
            int best = NONE;
            for (int s = 0; s < MOST_SOURCES; s++) {
                if (nextRoot[s] < beyondRoots[s] && (best == NONE || nextRoot[s] < nextRoot[best])) {
                    best = s;
                }
            }
            return best;
        }

        /** The j-th that the latest step shows. */
        Spark shown(int j) {
            int row = j >= 0 && j < showing && j < LINE_SPARKS ? shownRows[j] : 0;
            return line[row >= 0 && row < LINE_SPARKS ? row : 0];
        }
    }

    /** All sparks of one tick, in rows by code and in a frame's order. */
    private static final class Frame {
        // What a row has of its spark; behind PLACE its x, y, z.
        private static final int CODE = 0;
        private static final int KIND = 1;
        private static final int BORN = 2;
        private static final int END = 3;
        private static final int PLACE = 4;
        private static final int ROW_FIELDS = 7;
        // No tick has more: of each root that was planned up to 200 ticks ahead, 20 a tick, 4 sparks at most.
        private static final int MOST_ROWS = 16384;

        private final Scene scene;
        private final Walk walk;
        int length;
        private int[] rows = new int[16 * ROW_FIELDS];
        /** Which row stands at each place of the frame. */
        private int[] order = new int[16];
        private final int[] depths = new int[MOST_CELLS * EIGHTHS];
        private int tick = NONE;

        Frame(Scene scene, Walk walk) {
            this.scene = scene;
            this.walk = walk;
        }

        void forget() {
            tick = NONE;
        }

        /** False, if there is no such frame; else its rows stand until the next call. */
        boolean shows(int wanted) {
            if (!scene.stands || !isTick(wanted)) {
                return false;
            }
            if (wanted == tick) {
                return true;
            }
            length = 0;
            walk.start(wanted, wanted + 1);
            for (int i = 0; i < MANY && walk.stepRoot(); i++) {
                for (int j = 0; j < walk.showing; j++) {
                    append(walk.shown(j), wanted);
                }
            }
            putInOrder();
            tick = wanted;
            return true;
        }

        private void append(Spark it, int wanted) {
            if (length >= order.length) {
                grow();
            }
            int at = length * ROW_FIELDS;
            if (at < 0 || at + ROW_FIELDS > rows.length) {
                return;
            }
            rows[at + CODE] = it.code;
            rows[at + KIND] = it.kind;
            rows[at + BORN] = it.born;
            rows[at + END] = it.ends;
            for (int axis = 0; axis < 3; axis++) {
                rows[at + PLACE + axis] = it.placeAt(axis, wanted - it.born);
            }
            length++;
        }

        private void grow() {
            int more = 2 * order.length;
            if (more > 0 && more <= MOST_ROWS) {
                rows = Arrays.copyOf(rows, more * ROW_FIELDS);
                order = new int[more];
            }
        }

        // The rows stand by code already, so counting by depth keeps like ones in order.
        private void putInOrder() {
            Arrays.fill(depths, 0);
            for (int i = 0; i < length; i++) {
                depths[depthOf(i)]++;
            }
            int ahead = 0;
            for (int depth = depths.length - 1; depth >= 0; depth--) {
                int here = depths[depth];
                depths[depth] = ahead;
                ahead += here;
            }
            for (int i = 0; i < length; i++) {
                int depth = depthOf(i);
                int place = depths[depth];
                if (place >= 0 && place < order.length) {
                    order[place] = i;
                }
                depths[depth]++;
            }
        }

        private int depthOf(int row) {
            return Math.max(0, Math.min(depths.length - 1, placeOf(row, 2)));
        }

        private int ofRow(int row, int what) {
            int at = row * ROW_FIELDS + what;
            return at >= 0 && at < rows.length ? rows[at] : 0;
        }

        int codeOf(int row) {
            return ofRow(row, CODE);
        }

        int kindOf(int row) {
            return ofRow(row, KIND);
        }

        int bornOf(int row) {
            return ofRow(row, BORN);
        }

        int endOf(int row) {
            return ofRow(row, END);
        }

        int placeOf(int row, int axis) {
            return ofRow(row, PLACE + axis);
        }

        int rowAt(int place) {
            return place >= 0 && place < order.length ? order[place] : 0;
        }

        boolean isInColumn(int row, int x, int y) {
            return placeOf(row, 0) / EIGHTHS == x && placeOf(row, 1) / EIGHTHS == y;
        }

        private int columnOf(int row) {
            return columnAt(placeOf(row, 0) / EIGHTHS, placeOf(row, 1) / EIGHTHS);
        }

        private int layerOf(int row) {
            return placeOf(row, 2) / EIGHTHS;
        }

        int farSquared(int row, int x, int y, int z) {
            int byX = placeOf(row, 0) - (EIGHTHS * x + EIGHTHS / 2);
            int byY = placeOf(row, 1) - (EIGHTHS * y + EIGHTHS / 2);
            int byZ = placeOf(row, 2) - (EIGHTHS * z + EIGHTHS / 2);
            return byX * byX + byY * byY + byZ * byZ;
        }

        /** The k-th of a column, the one on top first: a frame's order from behind. */
        int fromTop(int x, int y, int k) {
            int ahead = k;
            for (int i = length - 1; i >= 0; i--) {
                if (isInColumn(rowAt(i), x, y)) {
                    if (ahead == 0) {
                        return codeOf(rowAt(i));
                    }
                    ahead--;
                }
            }
            return NONE;
        }

        void countColumns(int[] counts) {
            Arrays.fill(counts, 0);
            for (int i = 0; i < length; i++) {
                int column = columnOf(i);
                if (column >= 0 && column < counts.length) {
                    counts[column]++;
                }
            }
        }

        void countLayer(int z, int[] counts) {
            Arrays.fill(counts, 0);
            for (int i = 0; i < length; i++) {
                int column = columnOf(i);
                if (layerOf(i) == z && column >= 0 && column < counts.length) {
                    counts[column]++;
                }
            }
        }

        /** In a frame's order the sparks of one layer stand together: each layer is counted by itself. */
        long countTwos(int[] counts) {
            Arrays.fill(counts, 0);
            long twos = 0L;
            int layerStart = 0;
            for (int i = 0; i < length; i++) {
                if (layerOf(rowAt(i)) != layerOf(rowAt(layerStart))) {
                    forgetColumns(layerStart, i, counts);
                    layerStart = i;
                }
                int column = columnOf(rowAt(i));
                if (column >= 0 && column < counts.length) {
                    twos += counts[column];
                    counts[column]++;
                }
            }
            return twos;
        }

        private void forgetColumns(int from, int until, int[] counts) {
            for (int i = Math.max(0, from); i < until && i < length; i++) {
                int column = columnOf(rowAt(i));
                if (column >= 0 && column < counts.length) {
                    counts[column] = 0;
                }
            }
        }

        /** For each column its top's row and 1, 0 without one: in a frame's order the top comes last. */
        void markTops(int[] marks) {
            Arrays.fill(marks, 0);
            for (int i = 0; i < length; i++) {
                int column = columnOf(rowAt(i));
                if (column >= 0 && column < marks.length) {
                    marks[column] = rowAt(i) + 1;
                }
            }
        }
    }

    /** The latest changes of seed and kinds that can be taken back. */
    private static final class History {
        private static final int MOST = 10;

        private final int[] kinds = new int[MOST];
        private final int[] whats = new int[MOST];
        private final int[] values = new int[MOST];
        int length;

        void forget() {
            length = 0;
        }

        boolean isEmpty() {
            return length <= 0;
        }

        /** The kind NONE stands for the seed. */
        void remember(int kind, int what, int value) {
            if (length >= MOST) {
                System.arraycopy(kinds, 1, kinds, 0, MOST - 1);
                System.arraycopy(whats, 1, whats, 0, MOST - 1);
                System.arraycopy(values, 1, values, 0, MOST - 1);
                length = MOST - 1;
            }
            kinds[length] = kind;
            whats[length] = what;
            values[length] = value;
            length++;
        }

        void takeBack(Scene scene) {
            if (isEmpty()) {
                return;
            }
            length--;
            if (kinds[length] == NONE) {
                scene.seed = values[length];
            } else {
                scene.setKind(kinds[length], whats[length], values[length]);
            }
        }
    }

    /** What was told last. */
    private static final class Output {
        private final int[] bytes = new int[MOST_CELLS * (MOST_CELLS + 1)];
        int length;

        void clear() {
            length = 0;
        }

        void put(int sign) {
            if (length >= 0 && length < bytes.length) {
                bytes[length] = sign;
                length++;
            }
        }

        void putNumber(int number) {
            int unit = 1;
            for (int i = 0; i < 9 && number / unit > 9; i++) {
                unit *= 10;
            }
            for (int i = 0; i < 10 && unit > 0; i++) {
                put('0' + number / unit % 10);
                unit /= 10;
            }
        }

        int byteAt(int i) {
            return i >= 0 && i < length ? bytes[i] : NONE;
        }
    }
}
