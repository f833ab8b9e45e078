import java.util.Arrays;

/**
 * A machine that draws triangles: a stream of commands, programs for corners and for places, pictures
 * laid over, depths, stencils and blending, queries, and what was drawn copied back to memory.
 *
 * The words and numbers of commands, instructions and refusals are those of the document.
 */
public final class DrawingMachine {

    /** There is none. */
    public static final int NONE = -1;

    private static final int ONE = 65536;
    private static final int MEMORY_WORDS = 4096;
    private static final int STREAM_WORDS = 4096;
    private static final int MOST_SIDE = 128;
    private static final int MOST_DEPTH = (1 << 24) - 1;
    private static final int MOST_COMMANDS = 2000;
    private static final int MOST_CALLS = 4;
    private static final int MOST_LOOPS = 4;
    private static final int MOST_STEPS = 65536;
    private static final long MOST_WORK = 1L << 23;
    private static final int MOST_STORED = 256;
    private static final int UNIFORM_MANY = 32;
    private static final int QUERY_MANY = 8;

    private static final int END = 0;
    private static final int CLEAR = 1;
    private static final int UNIFORMS = 6;
    private static final int CORNERS_PROGRAM = 7;
    private static final int PLACES_PROGRAM = 8;
    private static final int DRAW = 17;
    private static final int DRAW_BY_INDEX = 18;
    private static final int QUERY = 19;
    private static final int COPY = 20;
    private static final int STORE = 21;
    private static final int CALL = 23;
    private static final int LAST_COMMAND = 25;

    private static final int CUT = 1;
    private static final int NO_KIND = 2;
    private static final int BAD_VALUE = 3;
    private static final int BAD_PROGRAM = 4;
    private static final int NO_PLACE = 5;
    private static final int BAD_STATE = 6;
    private static final int TOO_LONG = 7;
    private static final int TOO_MUCH_WORK = 8;

    private static final int ANY_LEAST = -2147483648;
    private static final int ANY_MOST = 2147483647;
    private static final int FAR_WORD = 1 << 20;

    /** How many arguments each kind of command has (STORE without the words that follow). */
    private static final int[] ARGUMENTS = {
        0, 4, 6, 4, 5, 5, 3, 2, 2, 6, 2, 8, 6, 1, 1, 1, 2, 3, 5, 2, 6, 2, 0, 1, 4, 5
    };

    /** Where each kind's arguments begin in LEAST and MOST. */
    private static final int[] BOUNDS_AT = {
        0, 0, 4, 10, 14, 19, 24, 27, 29, 31, 37, 39, 47, 53, 54, 55, 56, 58, 61, 66, 68, 74, 76, 76, 77, 81
    };

    private static final int[] LEAST = {
        0, ANY_LEAST, 0, 0,
        -1023, -1023, 1, 1, 0, 0,
        ANY_LEAST, ANY_LEAST, ANY_LEAST, ANY_LEAST,
        0, 0, 0, 0, 0,
        0, ANY_LEAST, ANY_LEAST, ANY_LEAST, ANY_LEAST,
        0, 0, 0,
        0, 1,
        0, 1,
        0, 0, 0, 0, 1, 0,
        -1, 0,
        0, -1, 0, 0, 0, 0, 0, 0,
        0, 0, 0, 0, -1, 0,
        ANY_LEAST,
        -1,
        0,
        0, 0,
        0, 0, 0,
        0, 0, 0, 0, ANY_LEAST,
        0, 0,
        0, 0, 1, 1, 0, 0,
        0, 0,
        0,
        0, 0, 0, 0,
        0, ANY_LEAST, ANY_LEAST, ANY_LEAST, ANY_LEAST
    };

    private static final int[] MOST = {
        7, ANY_MOST, MOST_DEPTH, 255,
        1023, 1023, 1024, 1024, MOST_DEPTH, MOST_DEPTH,
        ANY_MOST, ANY_MOST, ANY_MOST, ANY_MOST,
        7, FAR_WORD, 1024, 4, 3,
        31, ANY_MOST, ANY_MOST, ANY_MOST, ANY_MOST,
        31, 32, FAR_WORD,
        FAR_WORD, 256,
        FAR_WORD, 256,
        3, FAR_WORD, 10, 10, 11, 7,
        7, 1,
        1, 7, 255, 255, 255, 7, 7, 7,
        14, 14, 14, 14, 4, 4,
        ANY_MOST,
        15,
        15,
        3, 1,
        2, FAR_WORD, 4096,
        2, FAR_WORD, 4096, 2, ANY_MOST,
        7, 1,
        127, 127, 128, 128, FAR_WORD, 2,
        FAR_WORD, MOST_STORED,
        FAR_WORD,
        3, 3, 3, 3,
        3, ANY_MOST, ANY_MOST, ANY_MOST, ANY_MOST
    };

    // Where Told keeps the arguments of each command; those of commands that name a unit, a side,
    // an attribute or a uniform are kept for each of these, without its number.
    private static final int VIEW_AT = 0;
    private static final int SCISSORS_AT = 6;
    private static final int ATTRIBUTE_AT = 10;
    private static final int UNIFORM_AT = 42;
    private static final int TEXTURE_AT = 170;
    private static final int DEPTH_AT = 190;
    private static final int STENCIL_AT = 192;
    private static final int BLEND_AT = 206;
    private static final int CONSTANT_AT = 212;
    private static final int LOGIC_AT = 213;
    private static final int MASK_AT = 214;
    private static final int FACES_AT = 215;
    private static final int MANNER_AT = 217;
    private static final int BORDER_AT = 229;
    private static final int KEPT_WORDS = 245;

    /** Where each kind of command is kept; NONE for those of which nothing is. */
    private static final int[] KEPT_AT = {
        NONE, NONE, VIEW_AT, SCISSORS_AT, ATTRIBUTE_AT, UNIFORM_AT, NONE, NONE, NONE, TEXTURE_AT, DEPTH_AT,
        STENCIL_AT, BLEND_AT, CONSTANT_AT, LOGIC_AT, MASK_AT, FACES_AT, NONE, NONE, NONE, NONE, NONE, NONE,
        NONE, MANNER_AT, BORDER_AT
    };

    /** 1 for the kinds whose first argument says for which one of several the others are kept. */
    private static final int[] KEPT_BY_FIRST = {
        0, 0, 0, 0, 1, 1, 0, 0, 0, 1, 0, 1, 0, 0, 0, 0, 0, 0, 0, 0, 0, 0, 0, 0, 1, 1
    };

    // The instructions that do something else than setting their target by reckoning.
    private static final int STOP = 0;
    private static final int TEXEL_OF_LEVEL_0 = 32;
    private static final int TEXEL_OF_LEVEL = 33;
    private static final int LOOP = 34;
    private static final int ENDLOOP = 35;
    private static final int SKIP_UNLESS_ABOVE = 36;
    private static final int SKIP = 37;
    private static final int KILL = 38;
    private static final int LAST_INSTRUCTION = 40;

    /** How many sources each kind of instruction has. */
    private static final int[] SOURCES = {
        0, 1, 2, 2, 2, 3, 2, 2, 2, 2, 1, 1, 1, 1, 1, 1, 2, 2, 2, 2, 3, 3, 2, 2, 2, 2, 1, 2, 2, 2, 1, 1, 1, 1,
        0, 0, 1, 0, 1, 1, 1
    };

    // The processor's vectors lie in one row, so that a source is a place in it whatever its file.
    private static final int TEMPORARIES_AT = 0;
    private static final int INS_AT = 64;
    private static final int UNIFORMS_AT = 96;
    private static final int NOTHING_AT = 224;
    private static final int OUTS_AT = 228;
    private static final int BANK_WORDS = 260;
    private static final int[] FILE_AT = {TEMPORARIES_AT, INS_AT, UNIFORMS_AT, NOTHING_AT};

    private static final int[] TEXEL_BITS = {32, 16, 16, 16, 8, 8, 16, 4};

    /** For each format how many bits r, g, b and a have; 0: it is not told. */
    private static final int[] CHANNEL_BITS = {
        8, 8, 8, 8,
        5, 6, 5, 0,
        4, 4, 4, 4,
        5, 5, 5, 1,
        8, 8, 8, 0,
        0, 0, 0, 8,
        8, 8, 8, 8,
        4, 4, 4, 0
    };

    private static final int[] CHANNEL_SHIFT = {
        0, 8, 16, 24,
        0, 5, 11, 0,
        0, 4, 8, 12,
        0, 5, 10, 15,
        0, 0, 0, 0,
        0, 0, 0, 0,
        0, 0, 0, 8,
        0, 0, 0, 0
    };

    private static final int WENT_OVER = 0;
    private static final int MADE = 1;
    private static final int NOT_LEFT_OUT = 2;
    private static final int FIRST_ANSWER = 3;
    private static final int KILLED = 7;
    private static final int COVERED = 8;
    private static final int COUNT_MANY = 9;
    private static final int DRAWN = 3;

    private final int[] memory;
    private final Told told;
    private final Picture picture;
    private final Course course;
    private final Checker checker;
    private final Drawing drawing;
    private Program cornersProgram;
    private Program placesProgram;
    private Program spareProgram;

    public DrawingMachine() {
        memory = new int[MEMORY_WORDS];
        told = new Told();
        picture = new Picture(told);
        course = new Course(memory);
        checker = new Checker();
        drawing = new Drawing(memory, told, picture);
        cornersProgram = new Program();
        placesProgram = new Program();
        spareProgram = new Program();
    }

    public int frame(int wide, int high, int side) throws IllegalArgumentException {
        if (!isSide(wide) || !isSide(high) || !isTileSide(side)) {
            throw new IllegalArgumentException("no such frame");
        }
        picture.makeNew(wide, high);
        return ((wide + side - 1) / side) * ((high + side - 1) / side);
    }

    public int word(int place, int v) throws IndexOutOfBoundsException {
        if (place < 0 || place >= MEMORY_WORDS) {
            throw new IndexOutOfBoundsException("no such word");
        }
        int before = memory[place];
        memory[place] = v;
        return before;
    }

    public int look(int place) throws IndexOutOfBoundsException {
        if (place < 0 || place >= MEMORY_WORDS) {
            throw new IndexOutOfBoundsException("no such word");
        }
        return memory[place];
    }

    public int feed(int a, int b, int c, int d, int e) throws UnsupportedOperationException {
        if (course.words + 5 > STREAM_WORDS) {
            throw new UnsupportedOperationException("the stream is full");
        }
        course.makeRoom(5);
        course.add(a);
        course.add(b);
        course.add(c);
        course.add(d);
        course.add(e);
        return course.words;
    }

    public void end(int n) throws IllegalArgumentException {
        if (n < 0 || n > course.words) {
            throw new IllegalArgumentException("the stream has not so many words");
        }
        course.words = n;
        beginAnew();
    }

    public void begin(boolean keeps) {
        beginAnew();
        if (!keeps) {
            told.forget();
            cornersProgram.many = 0;
            placesProgram.many = 0;
        }
    }

    public int run(int n) throws IllegalArgumentException, IllegalStateException {
        if (n < 0) {
            throw new IllegalArgumentException("below 0");
        }
        if (course.over) {
            throw new IllegalStateException("the run is over");
        }
        int before = course.done;
        for (int i = 0; i < n && !course.over; i++) {
            int number = refusal();
            if (number == 0) {
                number = isDraw() ? drawing.draw(course, cornersProgram, placesProgram) : carryOut();
            }
            course.goOn(number);
        }
        return course.done - before;
    }

    public int about(int what) throws IllegalArgumentException {
        switch (what) {
            case 0:
                return course.over ? 1 : 0;
            case 1:
                return course.refused;
            case 2:
                return course.lastPlace;
            case 3:
                return course.lastDepth;
            case 4:
                return course.done;
            case 5:
                return drawing.openQuery;
            case 6:
                return course.words;
            case 7:
                return checker.fault;
            case 8:
                return checker.place;
            default:
                throw new IllegalArgumentException("nothing is told about that");
        }
    }

    public int at(int x, int y, int what) throws IllegalArgumentException, IndexOutOfBoundsException {
        if (what < 0 || what > 2) {
            throw new IllegalArgumentException("a place has no such thing");
        }
        if (x < 0 || x >= picture.wide || y < 0 || y >= picture.high) {
            throw new IndexOutOfBoundsException("no such place");
        }
        return picture.rowOf(what)[y * picture.wide + x];
    }

    public int sum(int what) throws IllegalArgumentException {
        if (what < 0 || what > 2) {
            throw new IllegalArgumentException("places have no such thing");
        }
        int[] row = picture.rowOf(what);
        int places = picture.wide * picture.high;
        int all = 0;
        for (int i = 0; i < places; i++) {
            all = 31 * all + row[i];
        }
        return all;
    }

    public int query(int n) throws IllegalArgumentException {
        if (n < 0 || n >= QUERY_MANY) {
            throw new IllegalArgumentException("no such query");
        }
        return drawing.queries[n];
    }

    public int count(int what) throws IllegalArgumentException {
        if (what < 0 || what >= COUNT_MANY) {
            throw new IllegalArgumentException("that is not counted");
        }
        return drawing.counts[what];
    }

    private void beginAnew() {
        course.beginAnew();
        drawing.openQuery = NONE;
    }

    private boolean isDraw() {
        return course.kind == DRAW || course.kind == DRAW_BY_INDEX;
    }

    /** The number with which the next command is refused before anything of it is done, or 0. */
    private int refusal() {
        int number = course.fetch();
        if (number == 0 && !placesAreThere()) {
            return NO_PLACE;
        }
        if (number == 0 && !stateAllows()) {
            return BAD_STATE;
        }
        return number;
    }

    private boolean placesAreThere() {
        int[] given = course.given;
        switch (course.kind) {
            case UNIFORMS:
                return given[0] + given[1] <= UNIFORM_MANY && inMemory(given[2], 4 * given[1]);
            case CORNERS_PROGRAM:
            case PLACES_PROGRAM:
                return inMemory(given[0], 3 * given[1]);
            case COPY:
                return given[0] + given[2] <= picture.wide && given[1] + given[3] <= picture.high
                    && inMemory(given[4], given[2] * given[3]);
            case STORE:
                return inMemory(given[0], given[1]);
            case CALL:
                return inMemory(given[0], 1);
            default:
                return true;
        }
    }

    private boolean stateAllows() {
        int[] given = course.given;
        switch (course.kind) {
            case DRAW:
            case DRAW_BY_INDEX:
                return cornersProgram.many > 0 && placesProgram.many > 0;
            case QUERY:
                return drawing.openQuery == (given[1] == 1 ? NONE : given[0]);
            case CALL:
                return course.depth < MOST_CALLS;
            default:
                return true;
        }
    }

    /** Does the command that was fetched: the number with which it is refused all the same, or 0. */
    private int carryOut() {
        int[] given = course.given;
        switch (course.kind) {
            case CLEAR:
                picture.clear(given[0], given[1], given[2], given[3]);
                return 0;
            case UNIFORMS:
                told.keepUniforms(given[0], given[1], memory, given[2]);
                return 0;
            case CORNERS_PROGRAM:
            case PLACES_PROGRAM:
                return readProgram(given[0], given[1]);
            case QUERY:
                drawing.turnQuery(given[0], given[1] == 1);
                return 0;
            case COPY:
                copyBack();
                return 0;
            case STORE:
                course.putWords(given[0], given[1]);
                return 0;
            default:
                told.keep(course.kind, given);
                return 0;
        }
    }

    /** The program is read beside those that stand, so that these stay if it has a fault. */
    private int readProgram(int from, int many) {
        boolean forPlaces = course.kind == PLACES_PROGRAM;
        Program read = spareProgram;
        read.many = many;
        System.arraycopy(memory, from, read.words, 0, 3 * many);
        checker.check(read, forPlaces);
        if (checker.fault != 0) {
            return BAD_PROGRAM;
        }
        if (forPlaces) {
            spareProgram = placesProgram;
            placesProgram = read;
        } else {
            spareProgram = cornersProgram;
            cornersProgram = read;
        }
        return 0;
    }

    private void copyBack() {
        int[] given = course.given;
        int[] row = picture.rowOf(given[5]);
        for (int y = 0; y < given[3]; y++) {
            int from = (given[1] + y) * picture.wide + given[0];
            System.arraycopy(row, from, memory, given[4] + y * given[2], given[2]);
        }
    }

    private static boolean isSide(int side) {
        return side >= 1 && side <= MOST_SIDE;
    }

    private static boolean isTileSide(int side) {
        return side == 8 || side == 16 || side == 32 || side == 64;
    }

    private static boolean inMemory(int from, int many) {
        return many == 0 || from + many <= MEMORY_WORDS;
    }

    private static int wordOf(int[] memory, long place) {
        return place < 0 || place >= MEMORY_WORDS ? 0 : memory[(int) place];
    }

    private static int within(long v, int least, int most) {
        return v < least ? least : v > most ? most : (int) v;
    }

    /** What commands told, as it is kept. */
    private static final class Told {
        final int[] kept = new int[KEPT_WORDS];

        Told() {
            forget();
        }

        void forget() {
            Arrays.fill(kept, 0);
            kept[VIEW_AT + 2] = 1;
            kept[VIEW_AT + 3] = 1;
            kept[VIEW_AT + 5] = MOST_DEPTH;
            kept[SCISSORS_AT + 2] = -1;
            for (int unit = 0; unit < 4; unit++) {
                kept[TEXTURE_AT + 5 * unit + 3] = 1;
            }
            kept[DEPTH_AT] = -1;
            kept[STENCIL_AT] = -1;
            kept[STENCIL_AT + 7] = -1;
            kept[BLEND_AT + 4] = -1;
            kept[LOGIC_AT] = -1;
            kept[MASK_AT] = 15;
        }

        void keep(int kind, int[] given) {
            int to = KEPT_AT[kind];
            if (to == NONE) {
                return;
            }
            int skipped = KEPT_BY_FIRST[kind];
            int many = ARGUMENTS[kind] - skipped;
            System.arraycopy(given, skipped, kept, to + skipped * given[0] * many, many);
        }

        void keepUniforms(int n, int many, int[] memory, int from) {
            // None may be asked for from a word that there isn't.
            if (many > 0) {
                System.arraycopy(memory, from, kept, UNIFORM_AT + 4 * n, 4 * many);
            }
        }

        boolean isOpen(int x, int y) {
            int x0 = kept[SCISSORS_AT];
            int x1 = kept[SCISSORS_AT + 2];
            return x1 < x0 || x >= x0 && x < x1 && y >= kept[SCISSORS_AT + 1] && y < kept[SCISSORS_AT + 3];
        }
    }

    /** The stream, and how far the run has come in it and in the lists that it calls. */
    private static final class Course {
        final int[] given = new int[8];
        int words;
        int kind;
        int depth;
        int done;
        int refused;
        int lastPlace = NONE;
        int lastDepth = NONE;
        boolean over;
        long work;
        private final int[] memory;
        private final int[] returns = new int[MOST_CALLS];
        private int[] stream = new int[64];
        private int position;
        private int length;

        Course(int[] memory) {
            this.memory = memory;
        }

        void makeRoom(int more) {
            if (words + more > stream.length) {
                stream = Arrays.copyOf(stream, Math.min(2 * stream.length, STREAM_WORDS));
            }
        }

        void add(int v) {
            if (words < stream.length) {
                stream[words] = v;
                words++;
            }
        }

        void beginAnew() {
            position = 0;
            depth = 0;
            done = 0;
            refused = 0;
            lastPlace = NONE;
            lastDepth = NONE;
            over = false;
            work = 0;
        }

        /** Looks at the next command: the number with which its words alone refuse it, or 0. */
        int fetch() {
            lastPlace = position;
            lastDepth = depth;
            if (done >= MOST_COMMANDS) {
                return TOO_LONG;
            }
            int[] source = source();
            int limit = limit();
            if (position >= limit) {
                kind = END;
                length = 0;
                return depth > 0 ? CUT : 0;
            }
            kind = source[position];
            if (kind < 0 || kind > LAST_COMMAND) {
                return NO_KIND;
            }
            length = 1 + ARGUMENTS[kind];
            if (position + length > limit) {
                return CUT;
            }
            if (kind == STORE) {
                length += within(source[position + 2], 0, MOST_STORED);
            }
            if (position + length > limit) {
                return CUT;
            }
            System.arraycopy(source, position + 1, given, 0, ARGUMENTS[kind]);
            return valuesMayBe() ? 0 : BAD_VALUE;
        }

        private int[] source() {
            return depth == 0 ? stream : memory;
        }

        private int limit() {
            return depth == 0 ? words : MEMORY_WORDS;
        }

        private boolean valuesMayBe() {
            int bounds = BOUNDS_AT[kind];
            for (int i = 0; i < ARGUMENTS[kind]; i++) {
                if (given[i] < LEAST[bounds + i] || given[i] > MOST[bounds + i]) {
                    return false;
                }
            }
            return true;
        }

        /** Puts the words of a STORE into memory; they may themselves lie where they are put. */
        void putWords(int to, int many) {
            if (many > 0) {
                System.arraycopy(source(), position + 3, memory, to, many);
            }
        }

        /** Goes behind the command that was fetched, or ends the run if a number refused it. */
        void goOn(int number) {
            if (number != 0) {
                refused = number;
                over = true;
                return;
            }
            done++;
            position += length;
            if (kind == CALL && depth < MOST_CALLS) {
                returns[depth] = position;
                depth++;
                position = given[0];
            } else if (kind == END && depth > 0) {
                depth--;
                position = returns[depth];
            } else if (kind == END) {
                over = true;
            }
        }
    }

    /** The instructions of a program, three words each; many is 0 if there is no program. */
    private static final class Program {
        final int[] words = new int[3 * 256];
        int many;
        int steps;
        /** Bit n: in n is a source of some instruction. What no instruction reads need not be reckoned. */
        int reads;

        boolean readsIn(int n) {
            return (reads >> n & 1) != 0;
        }
    }

    /** Looks for faults in a program, and reckons its steps. */
    private static final class Checker {
        int fault;
        int place = NONE;
        private final int[] loopOf = new int[256];
        private final int[] open = new int[MOST_LOOPS];
        /** How often what stands so deep in loops is done. */
        private final long[] times = new long[MOST_LOOPS + 1];
        private int depth;
        private long steps;

        void check(Program program, boolean forPlaces) {
            fault = 0;
            place = NONE;
            depth = 0;
            steps = 0;
            times[0] = 1;
            program.reads = 0;
            for (int i = 0; i < program.many && fault == 0; i++) {
                tell(faultAt(program, i, forPlaces), i);
                if (fault == 0) {
                    pass(program, i);
                }
            }
            if (fault == 0 && depth > 0) {
                tell(5, open[depth - 1]);
            }
            for (int i = 0; i < program.many && fault == 0; i++) {
                tell(leavesLoop(program, i) ? 5 : 0, i);
            }
            if (fault == 0 && steps > MOST_STEPS) {
                tell(8, NONE);
            }
            program.steps = fault == 0 ? (int) steps : 0;
        }

        private void tell(int found, int where) {
            if (found != 0) {
                fault = found;
                place = where;
            }
        }

        private int faultAt(Program program, int i, boolean forPlaces) {
            int first = program.words[3 * i];
            int kind = first & 63;
            if (kind > LAST_INSTRUCTION) {
                return 1;
            }
            if (hasTarget(kind) ? !targetMayBe(first) : (first >>> 6 & 0x7FF) != 0) {
                return 2;
            }
            if (!sourcesMayBe(SOURCES[kind], program.words[3 * i + 1], program.words[3 * i + 2])) {
                return 3;
            }
            if (!numberMayBe(kind, first >>> 17, i, program.many)) {
                return 4;
            }
            if (kind == ENDLOOP && depth == 0 || kind == LOOP && depth == MOST_LOOPS) {
                return 5;
            }
            if ((kind == STOP) != (i == program.many - 1)) {
                return 6;
            }
            return kind == KILL && !forPlaces ? 7 : 0;
        }

        private static boolean hasTarget(int kind) {
            return kind != STOP && (kind < LOOP || kind > KILL);
        }

        private static boolean targetMayBe(int first) {
            int file = first >>> 6 & 3;
            int number = first >>> 8 & 15;
            boolean setsPart = (first >>> 12 & 15) != 0;
            return setsPart && (file == 0 || file == 1 && number <= 7);
        }

        private static boolean sourcesMayBe(int many, int second, int third) {
            return sourceMayBe(many >= 1, second & 0xFFFF) && sourceMayBe(many >= 2, second >>> 16)
                && sourceMayBe(many >= 3, third & 0xFFFF) && third >>> 16 == 0;
        }

        private static boolean sourceMayBe(boolean isThere, int source) {
            if (!isThere) {
                return source == 0;
            }
            int number = source >>> 2 & 31;
            switch (source & 3) {
                case 0:
                    return number <= 15;
                case 1:
                    return number <= 7;
                case 2:
                    return true;
                default:
                    return number == 0;
            }
        }

        private static boolean numberMayBe(int kind, int number, int i, int many) {
            switch (kind) {
                case SKIP_UNLESS_ABOVE:
                case SKIP:
                    return number > i && number < many;
                case LOOP:
                    return number >= 1 && number <= 255;
                case TEXEL_OF_LEVEL_0:
                case TEXEL_OF_LEVEL:
                    return number <= 3;
                default:
                    return number == 0;
            }
        }

        /** Goes over an instruction without a fault: its loop, its steps, and the ins that it reads. */
        private void pass(Program program, int i) {
            int first = program.words[3 * i];
            int kind = first & 63;
            loopOf[i] = depth == 0 ? NONE : open[depth - 1];
            steps += times[depth];
            if (kind == LOOP) {
                open[depth] = i;
                times[depth + 1] = times[depth] * (first >>> 17);
                depth++;
            } else if (kind == ENDLOOP) {
                depth--;
            }
            int second = program.words[3 * i + 1];
            program.reads |= readBy(second & 0xFFFF) | readBy(second >>> 16) | readBy(program.words[3 * i + 2]);
        }

        private static int readBy(int source) {
            return (source & 3) == 1 ? 1 << (source >>> 2 & 7) : 0;
        }

        private boolean leavesLoop(Program program, int i) {
            int first = program.words[3 * i];
            int kind = first & 63;
            return (kind == SKIP || kind == SKIP_UNLESS_ABOVE) && loopOf[i] != loopOf[first >>> 17];
        }
    }

    /** Runs programs that were checked: their numbers, loops and skips are as the check wants them. */
    private static final class Processor {
        final int[] bank = new int[BANK_WORDS];
        private final int[] memory;
        private final Textures textures;
        private final int[] a = new int[4];
        private final int[] b = new int[4];
        private final int[] c = new int[4];
        private final int[] result = new int[4];
        private final int[] starts = new int[MOST_LOOPS];
        private final int[] left = new int[MOST_LOOPS];

        Processor(int[] memory, Told told) {
            this.memory = memory;
            this.textures = new Textures(memory, told);
        }

        /** Runs a program: whether it came to its end and was not killed. */
        boolean follow(Program program) {
            Arrays.fill(bank, TEMPORARIES_AT, INS_AT, 0);
            Arrays.fill(bank, OUTS_AT, BANK_WORDS, 0);
            int depth = 0;
            int next = 0;
            for (int step = 0; step < MOST_STEPS && next < program.many; step++) {
                int first = program.words[3 * next];
                int number = first >>> 17;
                int kind = first & 63;
                readSources(SOURCES[kind], program.words[3 * next + 1], program.words[3 * next + 2]);
                next++;
                switch (kind) {
                    case STOP:
                        return true;
                    case LOOP:
                        starts[depth] = next;
                        left[depth] = number;
                        depth++;
                        break;
                    case ENDLOOP:
                        left[depth - 1]--;
                        if (left[depth - 1] > 0) {
                            next = starts[depth - 1];
                        } else {
                            depth--;
                        }
                        break;
                    case SKIP_UNLESS_ABOVE:
                        next = a[0] <= 0 ? number : next;
                        break;
                    case SKIP:
                        next = number;
                        break;
                    case KILL:
                        if ((a[0] | a[1] | a[2] | a[3]) < 0) {
                            return false;
                        }
                        break;
                    case TEXEL_OF_LEVEL_0:
                    case TEXEL_OF_LEVEL:
                        textures.read(number, a[0], a[1], kind == TEXEL_OF_LEVEL ? a[2] : 0, result);
                        setTarget(first);
                        break;
                    default:
                        reckon(kind);
                        setTarget(first);
                        break;
                }
            }
            return true;
        }

        private void readSources(int many, int second, int third) {
            if (many >= 1) {
                readSource(second & 0xFFFF, a);
            }
            if (many >= 2) {
                readSource(second >>> 16, b);
            }
            if (many >= 3) {
                readSource(third, c);
            }
        }

        private void readSource(int source, int[] into) {
            int at = FILE_AT[source & 3] + 4 * (source >>> 2 & 31);
            boolean turned = (source >>> 15) != 0;
            for (int p = 0; p < 4; p++) {
                int v = bank[at + (source >>> 7 + 2 * p & 3)];
                into[p] = turned ? -v : v;
            }
        }

        private void setTarget(int first) {
            int at = ((first >>> 6 & 3) == 0 ? TEMPORARIES_AT : OUTS_AT) + 4 * (first >>> 8 & 15);
            boolean keptWithin = (first >>> 16 & 1) != 0;
            for (int p = 0; p < 4; p++) {
                if ((first >>> 12 + p & 1) != 0) {
                    bank[at + p] = keptWithin ? within(result[p], 0, ONE) : result[p];
                }
            }
        }

        private void reckon(int kind) {
            switch (kind) {
                case 6:
                    setAll(dotProduct(3));
                    break;
                case 7:
                    setAll(dotProduct(4));
                    break;
                case 13:
                    setAll(oneBy(a[0]));
                    break;
                case 14:
                    setAll(a[0] <= 0 ? ANY_MOST : rootOf((1L << 48) / a[0]));
                    break;
                case 15:
                    setAll(a[0] < 0 ? 0 : rootOf(65536L * a[0]));
                    break;
                case 22:
                    crossProduct();
                    break;
                case 30:
                    readUniform(a[0] >> 16);
                    break;
                case 31:
                    for (int p = 0; p < 4; p++) {
                        result[p] = wordOf(memory, (a[0] >> 16) + p);
                    }
                    break;
                default:
                    for (int p = 0; p < 4; p++) {
                        result[p] = part(kind, a[p], b[p], c[p]);
                    }
                    break;
            }
        }

        private void setAll(int v) {
            Arrays.fill(result, v);
        }

        private int dotProduct(int parts) {
            int all = 0;
            for (int p = 0; p < parts; p++) {
                all += product(a[p], b[p]);
            }
            return all;
        }

        private void crossProduct() {
            result[0] = product(a[1], b[2]) - product(a[2], b[1]);
            result[1] = product(a[2], b[0]) - product(a[0], b[2]);
            result[2] = product(a[0], b[1]) - product(a[1], b[0]);
            result[3] = 0;
        }

        private void readUniform(int k) {
            if (k >= 0 && k < UNIFORM_MANY) {
                System.arraycopy(bank, UNIFORMS_AT + 4 * k, result, 0, 4);
            } else {
                setAll(0);
            }
        }

        private static int part(int kind, int a, int b, int c) {
            switch (kind) {
                case 1: return a;
                case 2: return a + b;
                case 3: return a - b;
                case 4: return product(a, b);
                case 5: return product(a, b) + c;
                case 8: return a < b ? a : b;
                case 9: return a > b ? a : b;
                case 10: return a == ANY_LEAST ? ANY_MOST : a < 0 ? -a : a;
                case 11: return a & 0xFFFF0000;
                case 12: return a & 0xFFFF;
                case 16: return a < b ? ONE : 0;
                case 17: return a < b ? 0 : ONE;
                case 18: return a == b ? ONE : 0;
                case 19: return a == b ? 0 : ONE;
                case 20: return a >= 0 ? b : c;
                case 21: return product(a, b - c) + c;
                case 23: return a & b;
                case 24: return a | b;
                case 25: return a ^ b;
                case 26: return ~a;
                case 27: return a << (b & 31);
                case 28: return a >> (b & 31);
                case 29: return a >>> (b & 31);
                case 39: return a >> 16;
                case 40: return a << 16;
                default: return 0;
            }
        }

        private static int product(int a, int b) {
            return (int) ((long) a * b >> 16);
        }

        private static int oneBy(int b) {
            if (b == 0) {
                return ANY_MOST;
            }
            return within(Math.floorDiv(1L << 32, (long) b), ANY_LEAST, ANY_MOST);
        }

        /** The greatest number whose square is not above v, for v from 0 to 2^48. */
        private static int rootOf(long v) {
            long root = 0;
            for (int bit = 24; bit >= 0; bit--) {
                long tried = root + (1L << bit);
                if (tried * tried <= v) {
                    root = tried;
                }
            }
            return (int) root;
        }
    }

    /** Reads the pictures of the units 0 .. 3. */
    private static final class Textures {
        private final int[] memory;
        private final int[] kept;
        private final int[] nextLevel = new int[4];
        private final int[] beside = new int[4];
        private final int[] below = new int[4];
        private final int[] belowBeside = new int[4];

        Textures(int[] memory, Told told) {
            this.memory = memory;
            this.kept = told.kept;
        }

        void read(int unit, int s, int t, int l, int[] into) {
            int levels = kept[TEXTURE_AT + 5 * unit + 3];
            int filter = kept[MANNER_AT + 3 * unit + 2];
            int lod = within(l, 0, ONE * (levels - 1));
            int level = lod >> 16;
            int rest = lod & 0xFFFF;
            readLevel(unit, level, s, t, into);
            // With a rest there is a next level, since the last one ends at the greatest lod.
            if (filter >= 2 && rest > 0) {
                readLevel(unit, level + 1, s, t, nextLevel);
                mix(into, nextLevel, rest);
            }
        }

        private void readLevel(int unit, int level, int s, int t, int[] into) {
            int at = TEXTURE_AT + 5 * unit;
            int logWide = Math.max(kept[at + 1] - level, 0);
            int logHigh = Math.max(kept[at + 2] - level, 0);
            int first = texelsAbove(kept[at + 1], kept[at + 2], level);
            int across = kept[MANNER_AT + 3 * unit];
            int down = kept[MANNER_AT + 3 * unit + 1];
            boolean ofFour = (kept[MANNER_AT + 3 * unit + 2] & 1) != 0;
            long wideS = ((long) s << logWide) - (ofFour ? 32768 : 0);
            long highT = ((long) t << logHigh) - (ofFour ? 32768 : 0);
            int u = (int) (wideS >> 16);
            int v = (int) (highT >> 16);
            int x = wrapped(across, u, 1 << logWide);
            int row = rowAt(first, wrapped(down, v, 1 << logHigh), logWide);
            readTexel(unit, x, row, into);
            if (ofFour) {
                int nextX = wrapped(across, u + 1, 1 << logWide);
                int nextRow = rowAt(first, wrapped(down, v + 1, 1 << logHigh), logWide);
                readTexel(unit, nextX, row, beside);
                readTexel(unit, x, nextRow, below);
                readTexel(unit, nextX, nextRow, belowBeside);
                int f = (int) (wideS & 0xFFFF);
                mix(into, beside, f);
                mix(below, belowBeside, f);
                mix(into, below, (int) (highT & 0xFFFF));
            }
        }

        /** How many texels the levels ahead of this one have. */
        private static int texelsAbove(int logWide, int logHigh, int level) {
            int all = 0;
            for (int l = 0; l < level; l++) {
                all += 1 << Math.max(logWide - l, 0) + Math.max(logHigh - l, 0);
            }
            return all;
        }

        /** The number of a row's first texel, NONE if there is no row. */
        private static int rowAt(int first, int y, int logWide) {
            return y == NONE ? NONE : first + (y << logWide);
        }

        /** The place in a length n, a power of 2; NONE if the border's colour stands for it. */
        private static int wrapped(int manner, int i, int n) {
            switch (manner) {
                case 0:
                    return i & n - 1;
                case 1:
                    return within(i, 0, n - 1);
                case 2:
                    int j = i & 2 * n - 1;
                    return j < n ? j : 2 * n - 1 - j;
                default:
                    return i >= 0 && i < n ? i : NONE;
            }
        }

        private void readTexel(int unit, int x, int row, int[] into) {
            if (x == NONE || row == NONE) {
                System.arraycopy(kept, BORDER_AT + 4 * unit, into, 0, 4);
                return;
            }
            int format = kept[TEXTURE_AT + 5 * unit + 4];
            int bit = (row + x) * TEXEL_BITS[format];
            int texel = wordOf(memory, kept[TEXTURE_AT + 5 * unit] + (bit >> 5)) >>> (bit & 31);
            for (int k = 0; k < 4; k++) {
                int greatest = (1 << CHANNEL_BITS[4 * format + k]) - 1;
                int channel = texel >>> CHANNEL_SHIFT[4 * format + k] & greatest;
                if (greatest == 0) {
                    into[k] = k == 3 ? ONE : 0;
                } else {
                    into[k] = (2 * ONE * channel + greatest) / (2 * greatest);
                }
            }
        }

        private static void mix(int[] p, int[] q, int f) {
            for (int k = 0; k < 4; k++) {
                p[k] += (int) (((long) q[k] - p[k]) * f >> 16);
            }
        }
    }

    /** Which vertices the corners of triangles are, and what their attributes are. */
    private static final class Vertices {
        private final int[] memory;
        private final int[] kept;

        Vertices(int[] memory, Told told) {
            this.memory = memory;
            this.kept = told.kept;
        }

        static int triangles(int mode, int many) {
            return mode == 0 ? many / 3 : Math.max(many - 2, 0);
        }

        /** Which one of a draw's vertices corner j of triangle t is. */
        static int orderOf(int mode, int t, int j) {
            switch (mode) {
                case 0:
                    return 3 * t + j;
                case 1:
                    return t % 2 == 1 && j < 2 ? t + 1 - j : t + j;
                default:
                    return j == 0 ? 0 : t + j;
            }
        }

        int index(int from, int type, int k) {
            switch (type) {
                case 0:
                    return wordOf(memory, from + k);
                case 1:
                    return wordOf(memory, from + k / 2) >>> 16 * (k % 2) & 0xFFFF;
                default:
                    return wordOf(memory, from + k / 4) >>> 8 * (k % 4) & 0xFF;
            }
        }

        /** Puts the attributes of a vertex into those ins of the bank that the program reads. */
        void load(int vertex, Program program, int[] bank) {
            for (int n = 0; n < 8; n++) {
                if (program.readsIn(n)) {
                    loadAttribute(vertex, n, bank);
                }
            }
        }

        private void loadAttribute(int vertex, int n, int[] bank) {
            int at = ATTRIBUTE_AT + 4 * n;
            long place = kept[at] + (long) vertex * kept[at + 1];
            int parts = kept[at + 2];
            for (int k = 0; k < 4; k++) {
                int missing = k == 3 ? ONE : 0;
                bank[INS_AT + 4 * n + k] = k < parts ? part(kept[at + 3], place, k) : missing;
            }
        }

        private int part(int type, long place, int k) {
            switch (type) {
                case 0:
                    return wordOf(memory, place + k);
                case 1:
                    return (ONE * (wordOf(memory, place) >>> 8 * k & 0xFF) + 127) / 255;
                case 2:
                    return (short) (wordOf(memory, place + k / 2) >>> 16 * (k % 2)) * 256;
                default:
                    return (byte) (wordOf(memory, place) >>> 8 * k) * ONE;
            }
        }
    }

    /** The corners of one triangle while it is cut off, and where what is left is laid. */
    private static final class Shape {
        /** Three corners, cut off twice, are five; eight are never reached. */
        private static final int MOST_CORNERS = 8;
        private static final int NUMBERS = 32;

        int many;
        int[][] corners = new int[MOST_CORNERS][NUMBERS];
        final int[] x = new int[MOST_CORNERS];
        final int[] y = new int[MOST_CORNERS];
        final int[] depth = new int[MOST_CORNERS];
        final int[] nearness = new int[MOST_CORNERS];
        private int[][] spare = new int[MOST_CORNERS][NUMBERS];
        private final int[] kept;

        Shape(Told told) {
            this.kept = told.kept;
        }

        void take(int j, int[] bank) {
            System.arraycopy(bank, OUTS_AT, corners[j], 0, NUMBERS);
        }

        void cut() {
            many = 3;
            cutBy(true);
            cutBy(false);
        }

        private void cutBy(boolean byNear) {
            int left = 0;
            for (int i = 0; i < many; i++) {
                int[] here = corners[i];
                int[] next = corners[i + 1 < many ? i + 1 : 0];
                long inHere = inside(here, byNear);
                long inNext = inside(next, byNear);
                if (inHere >= 0 && left < MOST_CORNERS) {
                    System.arraycopy(here, 0, spare[left], 0, NUMBERS);
                    left++;
                }
                if (inHere >= 0 && inNext < 0 && left < MOST_CORNERS) {
                    between(here, next, inHere, inNext, spare[left]);
                    left++;
                } else if (inHere < 0 && inNext >= 0 && left < MOST_CORNERS) {
                    between(next, here, inNext, inHere, spare[left]);
                    left++;
                }
            }
            many = left < 3 ? 0 : left;
            int[][] before = corners;
            corners = spare;
            spare = before;
        }

        private static long inside(int[] corner, boolean byNear) {
            return byNear ? (long) corner[2] + corner[3] : (long) corner[3] - 256;
        }

        /** The new corner between one that is inside, by a, and one that is not, by b. */
        private static void between(int[] inner, int[] outer, long a, long b, int[] into) {
            if (a - b <= 0) {
                return;
            }
            long f = Math.floorDiv(ONE * a, a - b);
            for (int i = 0; i < NUMBERS; i++) {
                into[i] = (int) (inner[i] + (((long) outer[i] - inner[i]) * f >> 16));
            }
        }

        void layAll() {
            for (int i = 0; i < many; i++) {
                lay(i);
            }
        }

        private void lay(int i) {
            int[] corner = corners[i];
            int w = corner[3];
            if (w <= 0) {
                return;
            }
            x[i] = laid(shifted(corner[0], w), kept[VIEW_AT], kept[VIEW_AT + 2]);
            y[i] = laid(shifted(corner[1], w), kept[VIEW_AT + 1], kept[VIEW_AT + 3]);
            int near = kept[VIEW_AT + 4];
            depth[i] = within(near + scaled(shifted(corner[2], w), kept[VIEW_AT + 5] - near), 0, MOST_DEPTH);
            nearness[i] = Math.max((1 << 30) / w, 1);
        }

        private static long shifted(int v, int w) {
            return Math.floorDiv((long) v * ONE, (long) w) + ONE;
        }

        private static int laid(long shifted, int from, int size) {
            return within(16 * from + (shifted * size >> 13), -16384, 16383);
        }

        /** v times range, divided by 2^17: in two steps, since the product may pass 63 bits. */
        private static long scaled(long v, int range) {
            return (v >> 17) * range + ((v & (1 << 17) - 1) * range >> 17);
        }
    }

    /** One triangle on the screen: which places it covers, and what its numbers are there. */
    private static final class Covering {
        boolean front;
        int left;
        int right;
        int top;
        int bottom;
        private final Shape shape;
        private final int[] who = new int[3];
        private final long[] along = new long[3];
        private final long[] down = new long[3];
        private final long[] start = new long[3];
        private final long[] least = new long[3];
        private final long[] weight = new long[3];
        private final long[] share = new long[3];
        private long area;
        private long shares;

        Covering(Shape shape) {
            this.shape = shape;
        }

        /** Takes the triangle of the corners 0, k, k + 1: its area, which is below 0 if it is turned. */
        long take(int k) {
            who[0] = 0;
            who[1] = k;
            who[2] = k + 1;
            int[] x = shape.x;
            int[] y = shape.y;
            long turning = (long) (x[k] - x[0]) * (y[k + 1] - y[0]) - (long) (x[k + 1] - x[0]) * (y[k] - y[0]);
            if (turning < 0) {
                who[1] = k + 1;
                who[2] = k;
            }
            area = turning < 0 ? -turning : turning;
            return turning;
        }

        /** Makes ready for the places of a frame: the edges, and the places beyond which none is covered. */
        void makeReady(int wide, int high) {
            int[] x = shape.x;
            int[] y = shape.y;
            for (int j = 0; j < 3; j++) {
                setEdge(j, who[(j + 1) % 3], who[(j + 2) % 3]);
            }
            left = Math.max(leastOf(x) + 7 >> 4, 0);
            right = Math.min(greatestOf(x) - 8 >> 4, wide - 1);
            top = Math.max(leastOf(y) + 7 >> 4, 0);
            bottom = Math.min(greatestOf(y) - 8 >> 4, high - 1);
        }

        private int leastOf(int[] row) {
            return Math.min(row[who[0]], Math.min(row[who[1]], row[who[2]]));
        }

        private int greatestOf(int[] row) {
            return Math.max(row[who[0]], Math.max(row[who[1]], row[who[2]]));
        }

        /** The weight of corner j at a place is along * x + down * y + start. */
        private void setEdge(int j, int from, int to) {
            long dx = shape.x[to] - shape.x[from];
            long dy = shape.y[to] - shape.y[from];
            along[j] = -16 * dy;
            down[j] = 16 * dx;
            start[j] = dx * (8 - shape.y[from]) - dy * (8 - shape.x[from]);
            boolean topOrLeft = dy == 0 && dx > 0 || dy < 0;
            least[j] = topOrLeft ? 0 : 1;
        }

        boolean covers(int x, int y) {
            for (int j = 0; j < 3; j++) {
                weight[j] = along[j] * x + down[j] * y + start[j];
                if (weight[j] < least[j]) {
                    return false;
                }
            }
            return area > 0;
        }

        /** The depth at the place that was found covered last. */
        int depthThere() {
            long all = 0;
            for (int j = 0; j < 3; j++) {
                all += weight[j] * shape.depth[who[j]];
            }
            return area == 0 ? 0 : (int) (all / area);
        }

        /** Puts the varyings at that place into those ins of the bank that the program reads. */
        void load(Program program, int[] bank) {
            setShares();
            for (int n = 1; n < 8; n++) {
                if (program.readsIn(n)) {
                    for (int k = 4 * n; k < 4 * n + 4; k++) {
                        bank[INS_AT + k] = valueThere(k);
                    }
                }
            }
        }

        private void setShares() {
            long most = 0;
            for (int j = 0; j < 3; j++) {
                share[j] = weight[j] * shape.nearness[who[j]];
                most = Math.max(most, share[j]);
            }
            int shift = Math.max(64 - Long.numberOfLeadingZeros(most) - 29, 0);
            shares = 0;
            for (int j = 0; j < 3; j++) {
                share[j] >>= shift;
                shares += share[j];
            }
        }

        private int valueThere(int k) {
            long all = 0;
            for (int j = 0; j < 3; j++) {
                all += share[j] * shape.corners[who[j]][k];
            }
            return shares == 0 ? 0 : (int) Math.floorDiv(all, shares);
        }
    }

    /** The frame: the colours, depths and stencils of its places. */
    private static final class Picture {
        int wide = 1;
        int high = 1;
        private int[] colours = new int[1];
        private int[] depths = new int[1];
        private int[] stencils = new int[1];
        private final Told told;
        private final int[] kept;

        Picture(Told told) {
            this.told = told;
            this.kept = told.kept;
        }

        /** Rows are made anew only if those that there are can't hold so many places. */
        void makeNew(int newWide, int newHigh) {
            wide = newWide;
            high = newHigh;
            if (wide * high > colours.length) {
                int room = Math.min(Math.max(wide * high, 2 * colours.length), MOST_SIDE * MOST_SIDE);
                colours = new int[room];
                depths = new int[room];
                stencils = new int[room];
                return;
            }
            Arrays.fill(colours, 0, wide * high, 0);
            Arrays.fill(depths, 0, wide * high, 0);
            Arrays.fill(stencils, 0, wide * high, 0);
        }

        int[] rowOf(int what) {
            return what == 0 ? colours : what == 1 ? depths : stencils;
        }

        void clear(int what, int colour, int depth, int stencil) {
            int bits = channelBits(kept[MASK_AT]);
            boolean clearsDepth = (what & 2) != 0 && (kept[DEPTH_AT] < 0 || kept[DEPTH_AT + 1] == 1);
            int stencilBits = kept[STENCIL_AT] < 0 ? 255 : kept[STENCIL_AT + 3];
            for (int y = 0; y < high; y++) {
                for (int x = 0; x < wide; x++) {
                    int i = y * wide + x;
                    if (!told.isOpen(x, y)) {
                        continue;
                    }
                    if ((what & 1) != 0) {
                        colours[i] = colours[i] & ~bits | colour & bits;
                    }
                    if (clearsDepth) {
                        depths[i] = depth;
                    }
                    if ((what & 4) != 0) {
                        stencils[i] = stencils[i] & ~stencilBits | stencil & stencilBits;
                    }
                }
            }
        }

        /** Draws a place of the frame with a colour of bytes: 0 not open, 1 and 2 failed, 3 drawn. */
        int drawPlace(int x, int y, int depth, int side, int colour) {
            if (!told.isOpen(x, y)) {
                return 0;
            }
            int i = y * wide + x;
            int rule = STENCIL_AT + 7 * side;
            int mask = kept[rule + 2];
            if (!holds(kept[rule], kept[rule + 1] & mask, stencils[i] & mask)) {
                doDeed(i, rule, kept[rule + 4]);
                return 1;
            }
            if (!holds(kept[DEPTH_AT], depth, depths[i])) {
                doDeed(i, rule, kept[rule + 5]);
                return 2;
            }
            doDeed(i, rule, kept[rule + 6]);
            if (kept[DEPTH_AT] >= 0 && kept[DEPTH_AT + 1] == 1) {
                depths[i] = depth;
            }
            int bits = channelBits(kept[MASK_AT]);
            colours[i] = colours[i] & ~bits | newColour(colour, colours[i]) & bits;
            return DRAWN;
        }

        private static int channelBits(int mask) {
            int bits = 0;
            for (int channel = 0; channel < 4; channel++) {
                bits |= (mask >> channel & 1) * 255 << 8 * channel;
            }
            return bits;
        }

        /** A test that is off holds. */
        private static boolean holds(int test, int a, int b) {
            switch (test) {
                case 0:
                    return false;
                case 1:
                    return a < b;
                case 2:
                    return a == b;
                case 3:
                    return a <= b;
                case 4:
                    return a > b;
                case 5:
                    return a != b;
                case 6:
                    return a >= b;
                default:
                    return true;
            }
        }

        private void doDeed(int i, int rule, int deed) {
            if (kept[rule] < 0) {
                return;
            }
            int written = kept[rule + 3];
            int made = afterDeed(deed, stencils[i], kept[rule + 1]);
            stencils[i] = stencils[i] & ~written | made & written;
        }

        private static int afterDeed(int deed, int stencil, int value) {
            switch (deed) {
                case 1:
                    return 0;
                case 2:
                    return value;
                case 3:
                    return Math.min(stencil + 1, 255);
                case 4:
                    return Math.max(stencil - 1, 0);
                case 5:
                    return ~stencil & 255;
                case 6:
                    return stencil + 1 & 255;
                case 7:
                    return stencil - 1 & 255;
                default:
                    return stencil;
            }
        }

        private int newColour(int s, int d) {
            if (kept[LOGIC_AT] >= 0) {
                return byLogic(kept[LOGIC_AT], s, d);
            }
            if (kept[BLEND_AT + 4] < 0) {
                return s;
            }
            int made = 0;
            for (int channel = 0; channel < 4; channel++) {
                made |= blended(channel, s, d) << 8 * channel;
            }
            return made;
        }

        private static int byLogic(int logic, int s, int d) {
            int made = 0;
            made |= (logic & 1) != 0 ? ~s & ~d : 0;
            made |= (logic & 2) != 0 ? ~s & d : 0;
            made |= (logic & 4) != 0 ? s & ~d : 0;
            made |= (logic & 8) != 0 ? s & d : 0;
            return made;
        }

        private int blended(int channel, int s, int d) {
            int own = channel == 3 ? 2 : 0;
            int byteS = s >>> 8 * channel & 255;
            int byteD = d >>> 8 * channel & 255;
            int partS = byteS * factor(kept[BLEND_AT + own], channel, s, d);
            int partD = byteD * factor(kept[BLEND_AT + own + 1], channel, s, d);
            switch (kept[BLEND_AT + (channel == 3 ? 5 : 4)]) {
                case 0:
                    return by255(partS + partD);
                case 1:
                    return by255(partS - partD);
                case 2:
                    return by255(partD - partS);
                case 3:
                    return Math.min(byteS, byteD);
                default:
                    return Math.max(byteS, byteD);
            }
        }

        private static int by255(int v) {
            return v <= 0 ? 0 : Math.min((2 * v + 255) / 510, 255);
        }

        private int factor(int number, int channel, int s, int d) {
            int constant = kept[CONSTANT_AT];
            int of;
            switch (number >> 1) {
                case 1:
                    of = s >>> 8 * channel & 255;
                    break;
                case 2:
                    of = d >>> 8 * channel & 255;
                    break;
                case 3:
                    of = s >>> 24;
                    break;
                case 4:
                    of = d >>> 24;
                    break;
                case 5:
                    of = constant >>> 8 * channel & 255;
                    break;
                case 6:
                    of = constant >>> 24;
                    break;
                case 7:
                    return channel == 3 ? 255 : Math.min(s >>> 24, 255 - (d >>> 24));
                default:
                    of = 0;
                    break;
            }
            // Each odd factor is 255 less the even one ahead of it, 0 and 255 too.
            return number % 2 == 0 ? of : 255 - of;
        }
    }

    /** Does the draws, and counts what they do. */
    private static final class Drawing {
        final int[] counts = new int[COUNT_MANY];
        final int[] queries = new int[QUERY_MANY];
        int openQuery = NONE;
        private final int[] kept;
        private final Picture picture;
        private final Processor processor;
        private final Vertices vertices;
        private final Shape shape;
        private final Covering covering;

        Drawing(int[] memory, Told told, Picture picture) {
            this.kept = told.kept;
            this.picture = picture;
            this.processor = new Processor(memory, told);
            this.vertices = new Vertices(memory, told);
            this.shape = new Shape(told);
            this.covering = new Covering(shape);
        }

        void turnQuery(int n, boolean begins) {
            if (begins) {
                queries[n] = 0;
            }
            openQuery = begins ? n : NONE;
        }

        /** Does a DRAW: the number with which it is refused for its work, or 0. */
        int draw(Course course, Program corners, Program places) {
            int mode = course.given[0];
            int triangles = Vertices.triangles(mode, course.given[2]);
            long ofTriangle = 3L * corners.steps + (long) picture.wide * picture.high * places.steps;
            long work = course.work + triangles * ofTriangle;
            if (work > MOST_WORK) {
                return TOO_MUCH_WORK;
            }
            course.work = work;
            System.arraycopy(kept, UNIFORM_AT, processor.bank, UNIFORMS_AT, 4 * UNIFORM_MANY);
            for (int t = 0; t < triangles; t++) {
                counts[WENT_OVER]++;
                for (int j = 0; j < 3; j++) {
                    int vertex = vertexOf(course, Vertices.orderOf(mode, t, j));
                    vertices.load(vertex, corners, processor.bank);
                    processor.follow(corners);
                    shape.take(j, processor.bank);
                }
                shape.cut();
                shape.layAll();
                for (int k = 1; k + 1 < shape.many; k++) {
                    counts[MADE]++;
                    if (shows(covering.take(k))) {
                        counts[NOT_LEFT_OUT]++;
                        fill(places);
                    }
                }
            }
            return 0;
        }

        private int vertexOf(Course course, int order) {
            int[] given = course.given;
            if (course.kind == DRAW) {
                return given[1] + order;
            }
            return given[4] + vertices.index(given[1], given[3], order);
        }

        /** Whether a triangle with that area is not left out; the covering is told its side. */
        private boolean shows(long turning) {
            covering.front = turning > 0 != (kept[FACES_AT + 1] == 1);
            int side = covering.front ? 1 : 2;
            return turning != 0 && (kept[FACES_AT] & side) == 0;
        }

        private void fill(Program program) {
            int[] bank = processor.bank;
            int side = covering.front ? 0 : 1;
            covering.makeReady(picture.wide, picture.high);
            for (int y = covering.top; y <= covering.bottom; y++) {
                for (int x = covering.left; x <= covering.right; x++) {
                    if (!covering.covers(x, y)) {
                        continue;
                    }
                    counts[COVERED]++;
                    int depth = covering.depthThere();
                    bank[INS_AT] = ONE * x + ONE / 2;
                    bank[INS_AT + 1] = ONE * y + ONE / 2;
                    bank[INS_AT + 2] = depth;
                    bank[INS_AT + 3] = covering.front ? ONE : 0;
                    covering.load(program, bank);
                    if (processor.follow(program)) {
                        tally(picture.drawPlace(x, y, depth, side, colourOf(bank)));
                    } else {
                        counts[KILLED]++;
                    }
                }
            }
        }

        private void tally(int answer) {
            counts[FIRST_ANSWER + answer]++;
            if (answer == DRAWN && openQuery != NONE) {
                queries[openQuery]++;
            }
        }

        /** Out 0 as a colour of four bytes. */
        private static int colourOf(int[] bank) {
            int colour = 0;
            for (int k = 0; k < 4; k++) {
                int v = within(bank[OUTS_AT + k], 0, ONE);
                colour |= (255 * v + 32768 >> 16) << 8 * k;
            }
            return colour;
        }
    }
}
