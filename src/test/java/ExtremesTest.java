import java.util.ArrayList;
import java.util.List;
import java.util.Random;

/**
 * Sections 2 to 7 for the least and the greatest numbers that a word, a part, a corner or a place can have, and
 * those next to them, met by one another: answered by the class and by the model alike.
 * Arguments: the first seed, and how many rounds (both have a default, so that each run is the same).
 */
final class ExtremesTest {
    private static final int ONE = Rig.ONE;
    private static final int LEAST = Integer.MIN_VALUE;
    private static final int MOST = Integer.MAX_VALUE;
    private static final int DEEPEST = (1 << 24) - 1;

    /** Words at which something turns: signs, the point of FIXED numbers, EYE, halves, and the ends. */
    private static final int[] WORDS = {
        LEAST, LEAST + 1, LEAST + 65535, LEAST + 65536, -(1 << 30), -(1 << 24), -ONE - 1, -ONE, -ONE + 1, -32769, -32768,
        -257, -256, -255, -2, -1, 0, 1, 2, 3, 31, 32, 254, 255, 256, 257, 511, 512, 32767, 32768, 32769, 65535, ONE, ONE + 1,
        3 * ONE, 1 << 24, 1 << 30, MOST - 65536, MOST - 65535, MOST - 256, MOST - 255, MOST - 1, MOST};

    private static final int CORNERS_AT = 3000;
    private static final int PLACES_AT = 3100;
    private static final int VERTICES_AT = 3300;
    private static final int INDICES_AT = 3400;

    private final Random chance;
    private final Checks checks;
    private final String name;
    private Both both;
    private int covered;

    private ExtremesTest(Checks checks, long seed) {
        this.checks = checks;
        this.chance = new Random(seed);
        this.name = "round " + seed;
    }

    public static void main(String[] args) {
        long seed = args.length > 0 ? Long.parseLong(args[0]) : 1;
        int rounds = args.length > 1 ? Integer.parseInt(args[1]) : 12;
        Checks checks = new Checks("ExtremesTest");
        for (int i = 0; i < rounds && !checks.isWrong(); i++) {
            ExtremesTest test = new ExtremesTest(checks, seed + i);
            test.instructions();
            test.corners();
            test.attributes();
            test.textures();
            test.blending();
            test.depthsAndStencils();
            // A round that covers few places would hold little against the model.
            checks.due(test.name + " covers a thousand places", test.covered >= 1000 ? 1 : 0, 1);
        }
        checks.finish();
    }

    // ---- what all of them use

    private int among(int least, int most) {
        return least + chance.nextInt(most - least + 1);
    }

    private int pick(int... of) {
        return of[chance.nextInt(of.length)];
    }

    private boolean oneIn(int n) {
        return chance.nextInt(n) == 0;
    }

    /** One of the words at which something turns, one next to it, or any. */
    private int word() {
        return oneIn(6) ? chance.nextInt() : pick(WORDS) + (oneIn(6) ? among(-2, 2) : 0);
    }

    private int[] words(int many) {
        int[] all = new int[many];
        for (int i = 0; i < many; i++) {
            all[i] = word();
        }
        return all;
    }

    /** An end of a range, a number next to it, or any of it. */
    private int within(int least, int most) {
        return pick(least, most, Math.min(least + 1, most), Math.max(most - 1, least), among(least, most));
    }

    private void machine(String what) {
        both = new Both(checks, name + ", " + what);
    }

    private void say(int[]... commands) {
        List<Integer> all = new ArrayList<>();
        for (int[] command : commands) {
            for (int word : command) {
                all.add(word);
            }
        }
        both.end(0);
        both.feedAll(all);
        both.run(3000);
        checks.due(name + ": refused", both.about(1), 0);
    }

    private void end() {
        both.compareState();
        covered += both.model.count(8);
    }

    private static int[] of(int... words) {
        return words;
    }

    private static int[] store(int to, int[] words) {
        return Rig.join(of(Kinds.STORE, to, words.length), words);
    }

    private static int[] program(int kind, int from, int[] words) {
        return Rig.join(store(from, words), of(kind, from, words.length / 3));
    }

    private static int[] showing() {
        return of(Kinds.UNIFORM, 29, 8, 8, 8, 8, Kinds.UNIFORM, 30, 255, 255, 255, 255, Kinds.UNIFORM, 31, 0, 8, 16, 24);
    }

    /** A triangle that covers the whole frame, from near at its left and top to far at its right or bottom. */
    private int[] coverAll(int wide, int high) {
        int[] vertices = {-ONE, -ONE, -ONE, ONE, 3 * ONE, -ONE, ONE, ONE, -ONE, 3 * ONE, ONE, ONE};
        return Rig.join(store(VERTICES_AT, vertices), program(Kinds.CORNERS_PROGRAM, CORNERS_AT, Rig.handOn(1)),
            of(Kinds.VIEW, 0, 0, wide, high, 0, DEEPEST, Kinds.ATTRIBUTE, 0, VERTICES_AT, 4, 4, 0), showing());
    }

    private static int[] draw() {
        return of(Kinds.DRAW, 0, 0, 3);
    }

    private static int temporary(int n) {
        return Rig.source(Rig.TEMPORARY, n);
    }

    private static int uniform(int n) {
        return Rig.source(Rig.UNIFORM, n);
    }

    /**
     * Makes the temporaries 0 .. many - 1 four words each of memory, others at each place: from x + 128 y + 64 on,
     * and as much further as the uniforms 1 .. tell. Uniform 0 is 128.
     */
    private static int[] wordsOfPlace(int many) {
        int[] all = Rig.set(5, Rig.TO_TEMPORARY, 9, Rig.ALL,
            Rig.part(Rig.IN, 0, 1), uniform(0), Rig.part(Rig.IN, 0, 0));
        for (int n = 0; n < many; n++) {
            all = Rig.join(all, Rig.set(2, Rig.TO_TEMPORARY, 8, Rig.ALL, temporary(9), uniform(1 + n)),
                Rig.set(31, Rig.TO_TEMPORARY, n, Rig.ALL, temporary(8)));
        }
        return all;
    }

    private int[] uniformsOfPlace() {
        int[] all = of(Kinds.UNIFORM, 0, 128 * ONE, 128 * ONE, 128 * ONE, 128 * ONE);
        for (int n = 1; n < 4; n++) {
            int further = among(0, 400) * ONE;
            all = Rig.join(all, of(Kinds.UNIFORM, n, further, further, further, further));
        }
        return all;
    }

    // ---- section 2

    private void instructions() {
        int[] kinds = new int[35];
        for (int i = 0; i < 35; i++) {
            kinds[i] = i < 33 ? i + 1 : i + 6;
        }
        for (int i = 0; i < kinds.length; i++) {
            if (i % 7 == 0) {
                machine("instructions");
                both.frame(128, 3, 8);
                say(coverAll(128, 3), uniformsOfPlace());
                for (int from = 0; from < 1024; from += 256) {
                    say(store(from, words(256)));
                }
                say(of(Kinds.TEXTURE, 0, 0, 3, 2, 3, 0, Kinds.MANNER, 0, 2, 0, 3));
            }
            instruction(kinds[i]);
        }
        end();
    }

    private void instruction(int kind) {
        int[] sources = new int[Scenes.sourcesOf(kind)];
        for (int k = 0; k < sources.length; k++) {
            int source = Rig.source(Rig.TEMPORARY, k, oneIn(2) ? Rig.STRAIGHT : among(0, 255));
            sources[k] = oneIn(4) ? Rig.turned(source) : source;
        }
        int[] one = Rig.set(kind, 0, oneIn(6), Rig.target(Rig.TO_TEMPORARY, 4, Rig.ALL), sources);
        int[] shown = Rig.show(Rig.TEMPORARY, 4, among(0, 3));
        say(uniformsOfPlace(), program(Kinds.PLACES_PROGRAM, PLACES_AT, Rig.join(wordsOfPlace(3), one, shown)), draw());
        both.sum(0);
    }

    // ---- sections 3 and 4

    /** A corner: w of any size, x, y and z such that they pass w, meet it or stay below it. */
    private int[] corner() {
        int w = oneIn(4) ? word() : pick(256, 257, 300, 4096, 32768, ONE, ONE, 3 * ONE, 1 << 24, 1 << 30, MOST - 1, MOST);
        int[] all = new int[8];
        for (int k = 0; k < 3; k++) {
            long v = pick(-3, -1, -1, 0, 1, 1, 3) * (long) w + (oneIn(3) ? among(-300, 300) : 0);
            all[k] = oneIn(8) ? word() : (int) Math.max(LEAST, Math.min(MOST, v));
        }
        all[3] = w;
        if (oneIn(6)) {
            // The nearest corner with the greatest depth: its product with far - near just passes 63 bits.
            all[2] = MOST;
            all[3] = 256;
        }
        for (int k = 4; k < 8; k++) {
            all[k] = word();
        }
        return all;
    }

    private int[] view(int wide, int high) {
        boolean plain = oneIn(2);
        int near = pick(0, 0, DEEPEST, within(0, DEEPEST));
        return of(Kinds.VIEW, plain ? 0 : within(-1023, 1023), plain ? 0 : within(-1023, 1023),
            plain ? wide : within(1, 1024), plain ? high : within(1, 1024),
            near, oneIn(2) ? DEEPEST - near : within(0, DEEPEST));
    }

    private void corners() {
        machine("corners");
        int[] size = new int[][] {{1, 1}, {128, 1}, {1, 128}, {13, 11}, {32, 24}}[chance.nextInt(5)];
        both.frame(size[0], size[1], 64);
        say(program(Kinds.CORNERS_PROGRAM, CORNERS_AT, Rig.handOn(2)), showing(),
            of(Kinds.ATTRIBUTE, 0, VERTICES_AT, 8, 4, 0, Kinds.ATTRIBUTE, 1, VERTICES_AT + 4, 8, 4, 0, Kinds.DEPTH, 7, 1));
        while (both.hasRoomFor(90)) {
            int[] shown = Rig.show(Rig.IN, 1, among(0, 3));
            say(view(size[0], size[1]), of(Kinds.FACES, oneIn(5) ? among(0, 3) : 0, among(0, 1)),
                store(VERTICES_AT, Rig.join(corner(), corner(), corner())),
                program(Kinds.PLACES_PROGRAM, PLACES_AT, oneIn(4) ? Rig.show(Rig.IN, 0, among(0, 3)) : shown), draw());
            both.sum(0);
            both.sum(1);
        }
        end();
    }

    /**
     * Attributes and indices: words at the ends of memory and beyond, and vertices that reach them or pass them.
     * Attribute 1 has the places: vertices 0 and 1 are to the right of and below the place's middle, and any other
     * vertex, whose words aren't there, is that middle itself, so that its attribute 0 alone is what is seen.
     */
    private void attributes() {
        machine("attributes");
        both.frame(1, 1, 8);
        int[] corners = Rig.join(Rig.set(1, Rig.TO_OUT, 0, Rig.ALL, Rig.source(Rig.IN, 1)),
            Rig.set(1, Rig.TO_OUT, 1, Rig.ALL, Rig.source(Rig.IN, 0)), Rig.stop());
        say(program(Kinds.CORNERS_PROGRAM, CORNERS_AT, corners), showing(),
            store(VERTICES_AT, of(2 * ONE, 0, 0, 0, 2 * ONE, 0)), of(Kinds.ATTRIBUTE, 1, VERTICES_AT, 3, 3, 0),
            store(0, words(12)), store(4084, words(12)));
        while (both.hasRoomFor(80)) {
            int type = among(0, 2);
            int most = type == 1 ? 65535 : 255;
            int step = within(0, 1024);
            int place = pick(among(-4, 8), among(0, 8), among(4084, 4095), among(4088, 4100));
            int base = type == 0 ? word() : -among(0, most - 1);
            int vertex = type == 0 ? vertexFor(place, step) : base + within(0, most);
            long from = place - (long) vertex * step;
            int told = from >= 0 && from <= 1 << 20 ? (int) from : pick(0, Math.max(place, 0), within(0, 1 << 20));
            int at = oneIn(5) ? among(4092, 4096) - (type == 0 ? 2 : 0) : INDICES_AT;
            int[] indices = packed(type, vertex - base, -base, 1 - base);
            say(oneIn(4) ? store(0, words(12)) : of(), at + indices.length <= 4096 ? store(at, indices) : of(),
                of(Kinds.ATTRIBUTE, 0, told, step, within(0, 4), among(0, 3)),
                program(Kinds.PLACES_PROGRAM, PLACES_AT, Rig.show(Rig.IN, 1, among(0, 3))),
                of(Kinds.DRAW_BY_INDEX, 0, at, 3, type, base));
            both.sum(0);
        }
        end();
    }

    /** A vertex whose attribute may lie at that word, or would if its place were reckoned with wrapping. */
    private int vertexFor(int place, int step) {
        if (step == 0 || oneIn(3)) {
            return pick(word(), 1 << 22, -(1 << 22), 1 << 23, 1 << 30, LEAST);
        }
        return Math.floorDiv(place - within(0, 1 << 20), step);
    }

    private static int[] packed(int type, int i, int j, int k) {
        return type == 0 ? of(i, j, k) : type == 1 ? of(i | j << 16, k) : of(i | j << 8 | k << 16);
    }

    // ---- section 5

    /** Where textures are read: at the ends of what a word can be, and where texels and levels meet. */
    private int[] readings(int many) {
        int[] all = new int[many];
        for (int i = 0; i < many; i++) {
            int between = among(-3, 12) * (ONE >> among(0, 11)) + among(-1, 1);
            all[i] = oneIn(2) ? between : word();
        }
        return all;
    }

    private void textures() {
        machine("textures");
        both.frame(64, 1, 8);
        say(coverAll(64, 1), store(64, readings(256)), store(320, readings(256)));
        say(store(600, anyWords(256)), store(4064, anyWords(32)));
        while (both.hasRoomFor(60)) {
            int unit = among(0, 3);
            int from = pick(600, among(600, 850), among(4060, 4096), within(0, 1 << 20));
            int log = pick(3, 10);
            int[] read = Rig.set(pick(32, 33, 33), unit, oneIn(6), Rig.target(Rig.TO_TEMPORARY, 4, Rig.ALL),
                Rig.source(Rig.TEMPORARY, 0, oneIn(2) ? Rig.STRAIGHT : among(0, 255)));
            say(of(Kinds.TEXTURE, unit, from, among(0, log), among(0, log), within(1, 11), among(0, 7)),
                of(Kinds.MANNER, unit, pick(0, 1, 2, 3, 3), pick(0, 1, 2, 3, 3), among(0, 3)),
                of(Kinds.BORDER, unit, pick(LEAST, MOST), pick(LEAST, MOST), word(), word()), uniformsOfPlace(),
                program(Kinds.PLACES_PROGRAM, PLACES_AT,
                    Rig.join(wordsOfPlace(1), read, Rig.show(Rig.TEMPORARY, 4, among(0, 3)))), draw());
            both.sum(0);
        }
        end();
    }

    private int[] anyWords(int many) {
        int[] all = new int[many];
        for (int i = 0; i < many; i++) {
            all[i] = chance.nextInt();
        }
        return all;
    }

    // ---- section 6

    /** Four bytes, the least and the greatest ones among them. */
    private int bytes() {
        int all = 0;
        for (int k = 0; k < 4; k++) {
            all = all << 8 | pick(0, 1, 127, 128, 254, 255, among(0, 255), among(0, 255), among(0, 255));
        }
        return all;
    }

    private int[] colours(int many) {
        int[] all = new int[many];
        for (int i = 0; i < many; i++) {
            all[i] = bytes();
        }
        return all;
    }

    /** A frame with words of memory to make colours of, other ones at each place. */
    private void colourful(String what) {
        machine(what);
        both.frame(128, 4, 32);
        say(coverAll(128, 4), uniformsOfPlace());
        for (int from = 0; from < 1280; from += 256) {
            say(store(from, oneIn(4) ? words(256) : colours(256)));
        }
    }

    /** The words as they are, as numbers that are cut, or but for their highest bits, about 0 .. ONE. */
    private int[] colourProgram() {
        int[] bare = Rig.set(1, Rig.TO_OUT, 0, Rig.ALL, temporary(0));
        int[] about = Rig.set(29, Rig.TO_OUT, 0, Rig.ALL, temporary(0), uniform(28));
        int[] shown = Rig.show(Rig.TEMPORARY, 0, among(0, 3));
        return Rig.join(wordsOfPlace(1), oneIn(2) ? shown : Rig.join(oneIn(2) ? bare : about, Rig.stop()));
    }

    private int[] drawColours() {
        return Rig.join(of(Kinds.UNIFORM, 28, 15, 15, 15, 15), uniformsOfPlace(),
            program(Kinds.PLACES_PROGRAM, PLACES_AT, colourProgram()), draw());
    }

    private void blending() {
        colourful("blending");
        while (both.hasRoomFor(100)) {
            say(of(Kinds.BLEND, 0, 0, 0, 0, -1, 0, Kinds.LOGIC, -1, Kinds.MASK, 15), drawColours());
            say(of(Kinds.BLEND, among(0, 14), among(0, 14), among(0, 14), among(0, 14), among(0, 4), among(0, 4)),
                of(Kinds.CONSTANT, bytes(), Kinds.LOGIC, oneIn(4) ? among(0, 15) : -1),
                of(Kinds.MASK, oneIn(3) ? among(0, 15) : 15), drawColours());
            both.sum(0);
        }
        end();
    }

    private int[] stencil(int side) {
        return of(Kinds.STENCIL, side, among(-1, 7), within(0, 255), within(0, 255), within(0, 255),
            among(0, 7), among(0, 7), among(0, 7));
    }

    private int[] scissors() {
        return of(Kinds.SCISSORS, pick(LEAST, -1, 0, 1, 127, 128, MOST), pick(LEAST, -1, 0, 1, 3, 4, MOST),
            pick(LEAST, -1, 0, 1, 127, 128, MOST), pick(LEAST, -1, 0, 1, 3, 4, MOST));
    }

    private void depthsAndStencils() {
        colourful("depths and stencils");
        while (both.hasRoomFor(60)) {
            say(of(Kinds.DEPTH, among(-1, 7), among(0, 1)), stencil(0), stencil(1),
                oneIn(3) ? scissors() : of(Kinds.SCISSORS, 0, 0, -1, 0), of(Kinds.FACES, 0, among(0, 1)),
                oneIn(2) ? of(Kinds.CLEAR, within(0, 7), bytes(), within(0, DEEPEST), within(0, 255)) : of(),
                of(Kinds.VIEW, 0, 0, 128, 4, within(0, DEEPEST), within(0, DEEPEST), Kinds.QUERY, among(0, 7), 1),
                drawColours(), oneIn(2) ? scissors() : of(), draw());
            both.sum(0);
            both.sum(1);
            both.sum(2);
        }
        end();
    }
}
