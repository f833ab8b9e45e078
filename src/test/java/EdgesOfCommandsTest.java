import java.util.Arrays;

/** Terms, section 1: each sentence that names an edge, one after the other. */
final class EdgesOfCommandsTest {
    private static final int LEAST = Integer.MIN_VALUE;
    private static final int MOST = Integer.MAX_VALUE;
    private static final int FAR = 1 << 20;
    private static final int DEEP = (1 << 24) - 1;

    public static void main(String[] args) {
        Checks checks = new Checks("EdgesOfCommandsTest");
        drawnOver(checks);
        kept(checks);
        drawsAndMoves(checks);
        numberSix(checks);
        goingOn(checks);
        fourDeep(checks);
        endOfTheWords(checks);
        tooLong(checks);
        longGoesFirst(checks);
        noSuchKind(checks);
        cutInTheStream(checks);
        cutInAList(checks);
        cutStore(checks);
        places(checks);
        states(checks);
        orderOfNumbers(checks);
        keptByNumber(checks);
        storeAsTheyAre(checks);
        refusedTellsNothing(checks);
        checks.finish();
    }

    // ---- what each argument may be

    /** A frame of 128 by 1 places and programs of an END each, so that any DRAW is little work. */
    private static Rig ready() {
        Rig rig = new Rig();
        rig.machine.frame(128, 1, 8);
        rig.say(Kinds.CORNERS_PROGRAM, 0, 1, Kinds.PLACES_PROGRAM, 0, 1);
        return rig;
    }

    /** A command with one argument changed, the only one of its stream: the number that is due. */
    private static void tried(Checks checks, Rig rig, int[] command, int argument, int v, int due) {
        int[] words = command.clone();
        words[argument] = v;
        checks.due(Arrays.toString(words), rig.sayJust(words), due);
    }

    /** Argument by argument, from its least to its most; the command itself is refused with the number due. */
    private static void within(Checks checks, String sentence, int[] command, int[]... bounds) {
        checks.sentence(sentence);
        Rig rig = ready();
        int due = rig.sayJust(command);
        checks.due(Arrays.toString(command), due, 0);
        for (int i = 0; i < bounds.length; i++) {
            int least = bounds[i][0];
            int most = bounds[i][1];
            tried(checks, rig, command, i + 1, least, 0);
            tried(checks, rig, command, i + 1, most, bounds[i].length > 2 ? bounds[i][2] : 0);
            if (least != LEAST) {
                tried(checks, rig, command, i + 1, least - 1, Kinds.VALUE);
                tried(checks, rig, command, i + 1, LEAST, Kinds.VALUE);
            }
            if (most != MOST) {
                tried(checks, rig, command, i + 1, most + 1, Kinds.VALUE);
                tried(checks, rig, command, i + 1, MOST, Kinds.VALUE);
            }
        }
    }

    private static int[] v(int... words) {
        return words;
    }

    private static void drawnOver(Checks checks) {
        int[] any = v(LEAST, MOST);
        within(checks, "0 END.", v(Kinds.END));
        within(checks, "1 CLEAR what 0 .. 7, colour any, depth 0 .. 2^24 - 1, stencil 0 .. 255.", v(Kinds.CLEAR, 0, 0, 0, 0),
            v(0, 7), any, v(0, DEEP), v(0, 255));
        within(checks, "2 VIEW x, y -1023 .. 1023, wide, high 1 .. 1024, near, far 0 .. 2^24 - 1.", v(Kinds.VIEW, 0, 0, 1, 1, 0, 0),
            v(-1023, 1023), v(-1023, 1023), v(1, 1024), v(1, 1024), v(0, DEEP), v(0, DEEP));
        within(checks, "3 SCISSORS x0, y0, x1, y1 any.", v(Kinds.SCISSORS, 0, 0, 0, 0), any, any, any, any);
        within(checks, "10 DEPTH test -1 .. 7, written 0 .. 1.", v(Kinds.DEPTH, 0, 0), v(-1, 7), v(0, 1));
        within(checks, "11 STENCIL side 0 .. 1, test -1 .. 7, value, mask, written 0 .. 255, three deeds 0 .. 7.",
            v(Kinds.STENCIL, 0, 0, 0, 0, 0, 0, 0, 0),
            v(0, 1), v(-1, 7), v(0, 255), v(0, 255), v(0, 255), v(0, 7), v(0, 7), v(0, 7));
        within(checks, "12 BLEND four factors 0 .. 14, equations -1 .. 4, 0 .. 4.", v(Kinds.BLEND, 0, 0, 0, 0, 0, 0),
            v(0, 14), v(0, 14), v(0, 14), v(0, 14), v(-1, 4), v(0, 4));
        within(checks, "13 CONSTANT colour any.", v(Kinds.CONSTANT, 0), any);
        within(checks, "14 LOGIC -1 .. 15.", v(Kinds.LOGIC, 0), v(-1, 15));
        within(checks, "15 MASK 0 .. 15.", v(Kinds.MASK, 0), v(0, 15));
        within(checks, "16 FACES out 0 .. 3, clock 0 .. 1.", v(Kinds.FACES, 0, 0), v(0, 3), v(0, 1));
    }

    private static void kept(Checks checks) {
        int[] any = v(LEAST, MOST);
        within(checks, "4 ATTRIBUTE n 0 .. 7, from 0 .. 2^20, step 0 .. 1024, parts 0 .. 4, type 0 .. 3.",
            v(Kinds.ATTRIBUTE, 0, 0, 0, 0, 0), v(0, 7), v(0, FAR), v(0, 1024), v(0, 4), v(0, 3));
        within(checks, "5 UNIFORM n 0 .. 31, x, y, z, w any.", v(Kinds.UNIFORM, 0, 0, 0, 0, 0), v(0, 31), any, any, any, any);
        within(checks, "6 UNIFORMS n 0 .. 31, many 0 .. 32, from 0 .. 2^20", v(Kinds.UNIFORMS, 0, 0, 0), v(0, 31), v(0, 32), v(0, FAR));
        // What lies in memory from word 0 on are ENDs, of which the last one alone may be one.
        within(checks, "7 CORNERS' PROGRAM from 0 .. 2^20, many 1 .. 256.", v(Kinds.CORNERS_PROGRAM, 0, 1),
            v(0, FAR, Kinds.PLACE), v(1, 256, Kinds.FAULT));
        within(checks, "8 PLACES' PROGRAM likewise.", v(Kinds.PLACES_PROGRAM, 0, 1), v(0, FAR, Kinds.PLACE), v(1, 256, Kinds.FAULT));
        within(checks, "9 TEXTURE unit 0 .. 3, from 0 .. 2^20, two logarithms 0 .. 10, levels 1 .. 11, format 0 .. 7.",
            v(Kinds.TEXTURE, 0, 0, 0, 0, 1, 0), v(0, 3), v(0, FAR), v(0, 10), v(0, 10), v(1, 11), v(0, 7));
        within(checks, "24 MANNER unit 0 .. 3, across, down, filter 0 .. 3.", v(Kinds.MANNER, 0, 0, 0, 0), v(0, 3), v(0, 3), v(0, 3), v(0, 3));
        within(checks, "25 BORDER unit 0 .. 3, r, g, b, a any.", v(Kinds.BORDER, 0, 0, 0, 0, 0), v(0, 3), any, any, any, any);
    }

    private static void drawsAndMoves(Checks checks) {
        int[] any = v(LEAST, MOST);
        within(checks, "17 DRAW mode 0 .. 2, first 0 .. 2^20, many 0 .. 4096.", v(Kinds.DRAW, 0, 0, 0), v(0, 2), v(0, FAR), v(0, 4096));
        within(checks, "18 DRAW BY INDEX mode 0 .. 2, from 0 .. 2^20, many 0 .. 4096, type 0 .. 2, base any.",
            v(Kinds.DRAW_BY_INDEX, 0, 0, 3, 0, 0), v(0, 2), v(0, FAR), v(0, 4096), v(0, 2), any);
        checks.sentence("19 QUERY n 0 .. 7, begins 0 .. 1.");
        Rig queries = new Rig();
        for (int n : new int[] {LEAST, -1, 0, 7, 8, MOST}) {
            int due = n >= 0 && n < 8 ? 0 : Kinds.VALUE;
            checks.due("QUERY " + n + " begins", queries.sayJust(Kinds.QUERY, n, 1), due);
            checks.due("QUERY " + n + " begins and ends", queries.sayJust(Kinds.QUERY, n, 1, Kinds.QUERY, n, 0), due);
        }
        for (int begins : new int[] {LEAST, -1, 2, MOST}) {
            checks.due("QUERY 0, " + begins, queries.sayJust(Kinds.QUERY, 0, begins), Kinds.VALUE);
        }
        within(checks, "20 COPY x, y 0 .. 127, wide, high 1 .. 128, to 0 .. 2^20, what 0 .. 2.", v(Kinds.COPY, 0, 0, 1, 1, 0, 0),
            v(0, 127), v(0, 127, Kinds.PLACE), v(1, 128), v(1, 128, Kinds.PLACE), v(0, FAR, Kinds.PLACE), v(0, 2));
        Rig high = new Rig();
        high.machine.frame(1, 128, 8);
        checks.due("COPY of the last row", high.sayJust(Kinds.COPY, 0, 127, 1, 1, 0, 0), 0);
        checks.due("COPY of 128 rows", high.sayJust(Kinds.COPY, 0, 0, 1, 128, 0, 0), 0);
        within(checks, "21 STORE to 0 .. 2^20, many 0 .. 256, and so many words, any.", v(Kinds.STORE, 0, 0), v(0, FAR));
        Rig store = new Rig();
        checks.due("STORE of any word", store.sayJust(Kinds.STORE, 9, 3, LEAST, MOST, -1), 0);
        int[] due = {LEAST, MOST, -1, 0};
        for (int i = 0; i < 4; i++) {
            checks.due("word " + (9 + i), store.machine.look(9 + i), due[i]);
        }
        for (int many : new int[] {256, 257, MOST}) {
            int[] words = new int[3 + 256];
            words[0] = Kinds.STORE;
            words[2] = many;
            checks.due("STORE of " + many, store.sayJust(words), many == 256 ? 0 : Kinds.VALUE);
        }
        checks.due("STORE of -1", store.sayJust(Kinds.STORE, 0, -1), Kinds.VALUE);
        within(checks, "22 FLUSH.", v(Kinds.FLUSH));
        within(checks, "23 CALL from 0 .. 2^20.", v(Kinds.CALL, 4095), v(0, FAR, Kinds.PLACE));
    }

    private static void numberSix(Checks checks) {
        checks.sentence("so many uniforms from n on get four words each of memory from there on.");
        Rig rig = Rig.showing();
        int[] words = new int[128];
        for (int i = 0; i < 128; i++) {
            words[i] = 7 * i + 1;
        }
        rig.store(1000, words);
        rig.say(Kinds.UNIFORMS, 0, 29, 1000);
        for (int n : new int[] {0, 1, 28}) {
            for (int p = 0; p < 4; p++) {
                checks.due("uniform " + n + ", part " + p, rig.shown(new int[0], Rig.UNIFORM, n, p), 7 * (4 * n + p) + 1);
            }
        }
        rig.say(Kinds.UNIFORMS, 5, 1, 1000, Kinds.UNIFORMS, 7, 0, 1000);
        for (int n = 4; n < 8; n++) {
            checks.due("uniform " + n + " behind one told anew", rig.shown(new int[0], Rig.UNIFORM, n, 0), n == 5 ? 1 : 28 * n + 1);
        }
    }

    // ---- going on

    private static void goingOn(Checks checks) {
        checks.sentence("CALL goes to a word of memory; commands come from there, up to an END, behind which it goes on behind the CALL");
        Rig rig = new Rig();
        rig.put(4091, Kinds.STORE, 9, 1, 5, Kinds.END);
        checks.due("a list that ends with memory", rig.sayJust(Kinds.CALL, 4091, Kinds.STORE, 10, 1, 6), 0);
        checks.due("the list", rig.machine.look(9), 5);
        checks.due("behind the CALL", rig.machine.look(10), 6);
        checks.due("CALL, STORE, END, STORE and the end", rig.machine.about(4), 5);
        checks.due("a CALL as the last command", rig.sayJust(Kinds.FLUSH, Kinds.CALL, 4095), 0);
        checks.due("the end of the words behind it", rig.machine.about(2), 3);
        rig.put(0, Kinds.STORE, 20, 1, 7, Kinds.END);
        checks.due("a list from word 0 on", rig.sayJust(Kinds.CALL, 0, Kinds.END, 26), 0);
        checks.due("was done", rig.machine.look(20), 7);
        checks.due("END of the stream", rig.machine.about(2), 2);
    }

    private static void fourDeep(Checks checks) {
        checks.sentence("calls may be four deep");
        for (int lists = 1; lists <= 5; lists++) {
            Rig rig = new Rig();
            for (int i = 1; i <= lists; i++) {
                rig.put(100 * i, Kinds.CALL, i < lists ? 100 * i + 100 : 4095, Kinds.STORE, i, 1, i, Kinds.END);
            }
            rig.put(100 * lists, Kinds.FLUSH, Kinds.FLUSH);
            checks.due(lists + " deep", rig.sayJust(Kinds.CALL, 100), lists <= 4 ? 0 : Kinds.STATE);
            for (int i = 1; i <= lists; i++) {
                checks.due("list " + i + " of " + lists + " went on behind its CALL", rig.machine.look(i), lists <= 4 ? i : 0);
            }
            checks.due("where it ended", rig.machine.about(2), lists <= 4 ? 2 : 400);
            checks.due("how deep", rig.machine.about(3), lists <= 4 ? 0 : 4);
        }
        Rig again = new Rig();
        int[] calls = new int[40];
        for (int i = 0; i < 40; i += 2) {
            calls[i] = Kinds.CALL;
            calls[i + 1] = 100;
        }
        again.put(100, Kinds.CALL, 4095, Kinds.CALL, 4095, Kinds.END);
        checks.due("twenty, one behind the other", again.sayJust(calls), 0);
        checks.due("each with two in it", again.machine.about(4), 20 * 6 + 1);
    }

    private static void endOfTheWords(Checks checks) {
        checks.sentence("In the stream END ends it all; so does the end of its words, where a command would begin (that is done, and "
            + "counted, as an END; words fed later don't go on with it).");
        DrawingMachine machine = new DrawingMachine();
        machine.feed(Kinds.FLUSH, Kinds.END, 26, 26, 26);
        checks.due("up to END", machine.run(100), 2);
        checks.due("over", machine.about(0), 1);
        checks.due("not refused", machine.about(1), 0);
        machine.end(1);
        checks.due("up to the end of the words", machine.run(100), 2);
        checks.due("over", machine.about(0), 1);
        checks.due("not refused", machine.about(1), 0);
        checks.due("END's place", machine.about(2), 1);
        machine.feed(Kinds.FLUSH, Kinds.FLUSH, Kinds.FLUSH, Kinds.FLUSH, Kinds.FLUSH);
        checks.dueThrow("words fed later", IllegalStateException.class, () -> machine.run(1));
        machine.end(1);
        checks.due("a run that is not over yet", machine.run(1), 1);
        machine.feed(Kinds.FLUSH, Kinds.FLUSH, Kinds.FLUSH, Kinds.FLUSH, Kinds.FLUSH);
        checks.due("goes on with words fed later", machine.run(100), 6);
        machine.end(0);
        machine.feed(Kinds.MASK, 1, Kinds.MASK, Kinds.FLUSH, Kinds.FLUSH);
        machine.end(3);
        checks.due("within a command it is no END", machine.run(100), 1);
        checks.due("but cut", machine.about(1), Kinds.CUT);
    }

    // ---- the numbers

    /** A list of 249 FLUSHes and an END; the stream's first 17 words do 2000 commands with it. */
    private static Rig done2000(int... behind) {
        Rig rig = new Rig();
        int[] list = new int[250];
        Arrays.fill(list, Kinds.FLUSH);
        list[249] = Kinds.END;
        rig.put(0, list);
        rig.put(300, 63, 0, 0);
        int[] words = new int[17];
        for (int i = 0; i < 16; i += 2) {
            words[i] = Kinds.CALL;
            words[i + 1] = i < 14 ? 0 : 9;
        }
        words[16] = Kinds.FLUSH;
        rig.sayJust(Rig.join(words, behind));
        return rig;
    }

    private static void tooLong(Checks checks) {
        checks.sentence("7 LONG: 2000 commands were done (ENDs, and the end of the words, too, are commands).");
        Rig ends = done2000();
        checks.due("the end of the words is the 2001st", ends.machine.about(1), Kinds.LONG);
        checks.due("2000 were done", ends.machine.about(4), 2000);
        checks.due("where the words end", ends.machine.about(2), 17);
        ends.machine.end(16);
        checks.due("the end of the words is the 2000th", ends.machine.run(MOST), 2000);
        checks.due("not refused", ends.machine.about(1), 0);
        Rig end = done2000(Kinds.END);
        checks.due("END is the 2001st", end.machine.about(1), Kinds.LONG);
        checks.due("2000 were done", end.machine.about(4), 2000);
        end.machine.begin(true);
        checks.due("run(1999)", end.machine.run(1999), 1999);
        checks.due("run(1)", end.machine.run(1), 1);
        checks.due("not over yet", end.machine.about(0), 0);
        checks.due("run(1)", end.machine.run(1), 0);
        checks.due("over", end.machine.about(0), 1);
        // In a list: the ENDs of lists count, too.
        Rig list = done2000();
        list.put(249, Kinds.FLUSH, Kinds.FLUSH, Kinds.END);
        list.machine.begin(true);
        checks.due("two more in each list", list.machine.run(MOST), 2000);
        checks.due("LONG in a list", list.machine.about(1), Kinds.LONG);
        checks.due("deep", list.machine.about(3), 1);
        checks.due("where", list.machine.about(2), 2000 - 7 * 253 - 1 + 9);
    }

    private static void longGoesFirst(Checks checks) {
        checks.sentence("A command is REFUSED, and the run is over, with the first of these numbers that is so: 7 LONG");
        int[][] others = {
            {26}, {Kinds.MASK}, {Kinds.MASK, 16}, {Kinds.CALL, 4096}, {Kinds.QUERY, 0, 0}, {Kinds.CORNERS_PROGRAM, 300, 1}, {Kinds.DRAW, 0, 0, 3}};
        int[] alone = {Kinds.NO_KIND, Kinds.CUT, Kinds.VALUE, Kinds.PLACE, Kinds.STATE, Kinds.FAULT, Kinds.STATE};
        for (int i = 0; i < others.length; i++) {
            Rig rig = done2000(others[i]);
            checks.due(Arrays.toString(others[i]) + " as the 2001st", rig.machine.about(1), Kinds.LONG);
            checks.due("no program was read", rig.machine.about(7), 0);
            checks.due(Arrays.toString(others[i]) + " alone", rig.sayJust(others[i]), alone[i]);
        }
    }

    private static void noSuchKind(Checks checks) {
        checks.sentence("2 KIND: there is no such kind.");
        Rig rig = new Rig();
        rig.put(4095, 26);
        for (int kind : new int[] {LEAST, -26, -1, 26, 27, 64, 256, 65536, MOST}) {
            checks.due("kind " + kind, rig.sayJust(kind), Kinds.NO_KIND);
            rig.machine.word(4095, kind);
            checks.due("kind " + kind + " in a list", rig.sayJust(Kinds.CALL, 4095), Kinds.NO_KIND);
            checks.due("deep", rig.machine.about(3), 1);
        }
    }

    private static final int[] ARGUMENTS = {0, 4, 6, 4, 5, 5, 3, 2, 2, 6, 2, 8, 6, 1, 1, 1, 2, 3, 5, 2, 6, 2, 0, 1, 4, 5};

    private static void cutInTheStream(Checks checks) {
        checks.sentence("1 CUT: a word of it is beyond the stream");
        for (int kind = 0; kind < 26; kind++) {
            Rig rig = new Rig();
            for (int given = 0; given < ARGUMENTS[kind]; given++) {
                int[] words = new int[given + 1];
                Arrays.fill(words, LEAST);
                words[0] = kind;
                checks.due("kind " + kind + " with " + given + " arguments", rig.sayJust(words), Kinds.CUT);
                checks.due("its place", rig.machine.about(2), 0);
            }
            int[] whole = new int[ARGUMENTS[kind] + 1];
            Arrays.fill(whole, LEAST);
            whole[0] = kind;
            rig.sayJust(whole);
            checks.due("kind " + kind + " with all of them is not cut", rig.machine.about(1) == Kinds.CUT ? 1 : 0, 0);
        }
    }

    private static void cutInAList(Checks checks) {
        checks.sentence("or (in a list) beyond memory (also its kind, in a list, where there is none to be wrong");
        for (int kind = 1; kind < 26; kind++) {
            Rig rig = new Rig();
            for (int given = 0; given < ARGUMENTS[kind]; given++) {
                int at = 4095 - given;
                rig.put(at, kind);
                checks.due("kind " + kind + " at " + at, rig.sayJust(Kinds.CALL, at), Kinds.CUT);
                checks.due("its place", rig.machine.about(2), at);
                rig.put(at, 0);
            }
        }
        Rig rig = new Rig();
        rig.put(4095, Kinds.FLUSH);
        checks.due("a list without an END", rig.sayJust(Kinds.CALL, 4095), Kinds.CUT);
        checks.due("CALL and FLUSH were done", rig.machine.about(4), 2);
        checks.due("behind memory", rig.machine.about(2), 4096);
        checks.due("deep", rig.machine.about(3), 1);
        rig.put(4094, Kinds.MASK, 1);
        checks.due("a command that ends with memory", rig.sayJust(Kinds.CALL, 4094), Kinds.CUT);
        checks.due("is done; what would be behind is cut", rig.machine.about(2), 4096);
        checks.due("CALL and MASK", rig.machine.about(4), 2);
        // The stream may be shorter than where a list stands, and longer than what is left of memory.
        rig.put(4095, Kinds.END);
        checks.due("a list at memory's end, and a longer stream behind", rig.sayJust(Kinds.CALL, 4095, Kinds.CLEAR, 1, 7, 0, 0), 0);
    }

    private static void cutStore(Checks checks) {
        checks.sentence("STORE has so many words as many tells, but not below 0 or above 256");
        for (int n : new int[] {LEAST, -1, 0, 1, 2, 255, 256, 257, MOST}) {
            Rig rig = new Rig();
            int has = Math.max(0, Math.min(256, n));
            int[] whole = new int[3 + has];
            whole[0] = Kinds.STORE;
            whole[1] = 1000;
            whole[2] = n;
            checks.due("STORE " + n + " with all its words", rig.sayJust(whole), n == has ? 0 : Kinds.VALUE);
            if (has > 0) {
                checks.due("STORE " + n + " with one less", rig.sayJust(Arrays.copyOf(whole, 2 + has)), Kinds.CUT);
            }
            int at = 4096 - 3 - has;
            rig.put(at, Kinds.STORE, 1000, n);
            checks.due("STORE " + n + " at memory's end", rig.sayJust(Kinds.CALL, at), n == has ? Kinds.CUT : Kinds.VALUE);
            checks.due("it, or what is behind it", rig.machine.about(2), n == has ? 4096 : at);
            if (has > 0) {
                rig.put(at, 0, Kinds.STORE, 1000, n);
                checks.due("STORE " + n + " beyond memory's end", rig.sayJust(Kinds.CALL, at + 1), Kinds.CUT);
                checks.due("it", rig.machine.about(2), at + 1);
            }
        }
    }

    private static void refusedForPlace(Checks checks, String sentence, int[][] refused, int[][] done) {
        checks.sentence(sentence);
        Rig rig = new Rig();
        rig.machine.frame(5, 4, 8);
        for (int[] words : refused) {
            checks.due(Arrays.toString(words), rig.sayJust(words), Kinds.PLACE);
        }
        for (int[] words : done) {
            checks.due(Arrays.toString(words), rig.sayJust(words), 0);
        }
    }

    private static void places(Checks checks) {
        refusedForPlace(checks, "5 PLACE: in UNIFORMS n and many pass 32", new int[][] {
            {Kinds.UNIFORMS, 1, 32, 0}, {Kinds.UNIFORMS, 31, 2, 0}, {Kinds.UNIFORMS, 31, 32, 0}, {Kinds.UNIFORMS, 16, 17, 0}}, new int[][] {
            {Kinds.UNIFORMS, 0, 32, 0}, {Kinds.UNIFORMS, 31, 1, 0}, {Kinds.UNIFORMS, 16, 16, 0}});
        refusedForPlace(checks, "or their words are not in memory (with many 0 none is missing, here and in STORE)", new int[][] {
            {Kinds.UNIFORMS, 0, 1, 4093}, {Kinds.UNIFORMS, 0, 1, 4096}, {Kinds.UNIFORMS, 0, 1, FAR}, {Kinds.UNIFORMS, 0, 32, 3969}},
            new int[][] {
            {Kinds.UNIFORMS, 0, 1, 4092}, {Kinds.UNIFORMS, 0, 32, 3968}, {Kinds.UNIFORMS, 31, 0, 4096}, {Kinds.UNIFORMS, 0, 0, FAR},
            {Kinds.STORE, 4096, 0}, {Kinds.STORE, FAR, 0}});
        refusedForPlace(checks, "a program's 3 times many words are not", new int[][] {
            {Kinds.CORNERS_PROGRAM, 4094, 1}, {Kinds.PLACES_PROGRAM, 4094, 1}, {Kinds.CORNERS_PROGRAM, 4096, 1},
            {Kinds.CORNERS_PROGRAM, FAR, 256}, {Kinds.PLACES_PROGRAM, 3329, 256}}, new int[][] {
            {Kinds.CORNERS_PROGRAM, 4093, 1}, {Kinds.PLACES_PROGRAM, 4093, 1}});
        checks.due("256 instructions up to memory's end", new Rig().sayJust(Kinds.PLACES_PROGRAM, 3328, 256), Kinds.FAULT);
        refusedForPlace(checks, "COPY's rectangle is not in the frame", new int[][] {
            {Kinds.COPY, 5, 0, 1, 1, 0, 0}, {Kinds.COPY, 0, 4, 1, 1, 0, 0}, {Kinds.COPY, 4, 0, 2, 1, 0, 1}, {Kinds.COPY, 0, 3, 1, 2, 0, 2},
            {Kinds.COPY, 0, 0, 6, 1, 0, 0}, {Kinds.COPY, 0, 0, 1, 5, 0, 0}, {Kinds.COPY, 127, 127, 128, 128, 0, 0}}, new int[][] {
            {Kinds.COPY, 4, 3, 1, 1, 0, 0}, {Kinds.COPY, 0, 0, 5, 4, 0, 1}, {Kinds.COPY, 3, 2, 2, 2, 0, 2}});
        refusedForPlace(checks, "or its wide times high words are not in memory", new int[][] {
            {Kinds.COPY, 0, 0, 5, 4, 4077, 0}, {Kinds.COPY, 0, 0, 1, 1, 4096, 0}, {Kinds.COPY, 0, 0, 1, 1, FAR, 0}}, new int[][] {
            {Kinds.COPY, 0, 0, 5, 4, 4076, 0}, {Kinds.COPY, 0, 0, 1, 1, 4095, 0}});
        Rig whole = new Rig();
        whole.machine.frame(128, 33, 8);
        checks.due("COPY of all that memory holds", whole.sayJust(Kinds.COPY, 0, 1, 128, 32, 0, 0), 0);
        checks.due("COPY of one row more", whole.sayJust(Kinds.COPY, 0, 0, 128, 33, 0, 0), Kinds.PLACE);
        refusedForPlace(checks, "STORE's words are not", new int[][] {
            {Kinds.STORE, 4096, 1, 5}, {Kinds.STORE, 4095, 2, 5, 6}, {Kinds.STORE, FAR, 1, 5}}, new int[][] {
            {Kinds.STORE, 4095, 1, 0}, {Kinds.STORE, 4094, 2, 0, 0}});
        refusedForPlace(checks, "CALL's word is not.", new int[][] {{Kinds.CALL, 4096}, {Kinds.CALL, FAR}}, new int[][] {
            {Kinds.CALL, 4095}, {Kinds.CALL, 0}});
    }

    private static void states(Checks checks) {
        checks.sentence("6 STATE: a DRAW without a program for corners or for places");
        int[][] draws = {{Kinds.DRAW, 0, 0, 3}, {Kinds.DRAW, 1, 0, 0}, {Kinds.DRAW_BY_INDEX, 2, 0, 0, 0, 0}};
        for (int[] draw : draws) {
            for (int programs = 0; programs < 4; programs++) {
                Rig rig = new Rig();
                if ((programs & 1) != 0) {
                    rig.say(Kinds.CORNERS_PROGRAM, 0, 1);
                }
                if ((programs & 2) != 0) {
                    rig.say(Kinds.PLACES_PROGRAM, 0, 1);
                }
                checks.due(Arrays.toString(draw) + " with programs " + programs, rig.sayJust(draw), programs == 3 ? 0 : Kinds.STATE);
            }
        }
        checks.sentence("QUERY begins, and one is open, or ends, and that one isn't");
        Rig rig = new Rig();
        int[][] queries = {{0, 1, 0, 1}, {0, 1, 1, 1}, {7, 1, 0, 0}, {0, 1, 7, 0}, {3, 0, 3, 1}, {0, 0, 0, 0}};
        for (int[] row : queries) {
            checks.due("QUERY " + Arrays.toString(row), rig.sayJust(Kinds.QUERY, row[0], row[1], Kinds.QUERY, row[2], row[3]), Kinds.STATE);
            checks.due("the open one", rig.machine.about(5), row[1] == 1 ? row[0] : -1);
        }
        int ends = rig.sayJust(Kinds.QUERY, 2, 1, Kinds.QUERY, 2, 0, Kinds.QUERY, 2, 0);
        checks.due("one that ended can't end once more", ends, Kinds.STATE);
        checks.due("one behind the other", rig.sayJust(Kinds.QUERY, 2, 1, Kinds.QUERY, 2, 0, Kinds.QUERY, 2, 1, Kinds.QUERY, 2, 0), 0);
        checks.sentence("CALL, and calls are four deep.");
        Rig self = new Rig();
        self.put(50, Kinds.CALL, 50, Kinds.END);
        checks.due("a list that calls itself", self.sayJust(Kinds.CALL, 50), Kinds.STATE);
        checks.due("four CALLs were done", self.machine.about(4), 4);
        checks.due("the fifth is refused", self.machine.about(3), 4);
        checks.due("where it stands", self.machine.about(2), 50);
    }

    /** Commands of which several numbers are so: the first one goes. */
    private static void orderOfNumbers(Checks checks) {
        checks.sentence("with the first of these numbers that is so");
        Rig rig = new Rig();
        rig.put(0, 63, 0, 0);
        int[][] rows = {
            // CUT and VALUE, and what would be PLACE or STATE
            {Kinds.CUT, Kinds.COPY, 128, 0, 1, 1, FAR + 1}, {Kinds.CUT, Kinds.DRAW, 3, 0}, {Kinds.CUT, Kinds.QUERY, 8}, {Kinds.CUT, Kinds.STORE, -1, 1},
            // VALUE and PLACE
            {Kinds.VALUE, Kinds.COPY, 127, 127, 128, 128, 0, 3}, {Kinds.VALUE, Kinds.UNIFORMS, 32, 32, FAR}, {Kinds.VALUE, Kinds.STORE, FAR + 1, 1, 5},
            {Kinds.VALUE, Kinds.CORNERS_PROGRAM, FAR, 257}, {Kinds.VALUE, Kinds.CALL, FAR + 1}, {Kinds.VALUE, Kinds.CALL, -1},
            // VALUE and STATE
            {Kinds.VALUE, Kinds.DRAW, 3, 0, 3}, {Kinds.VALUE, Kinds.DRAW, 0, 0, 4097}, {Kinds.VALUE, Kinds.DRAW_BY_INDEX, 0, 0, 3, 3, 0},
            {Kinds.VALUE, Kinds.QUERY, 8, 0}, {Kinds.VALUE, Kinds.QUERY, 0, 2},
            // VALUE and a fault, PLACE and a fault
            {Kinds.VALUE, Kinds.CORNERS_PROGRAM, 0, 0}, {Kinds.PLACE, Kinds.PLACES_PROGRAM, 4094, 1}, {Kinds.FAULT, Kinds.PLACES_PROGRAM, 0, 1}};
        for (int[] row : rows) {
            int[] words = Arrays.copyOfRange(row, 1, row.length);
            checks.due(Arrays.toString(words), rig.sayJust(words), row[0]);
        }
        // PLACE and STATE: a CALL of no word, four deep.
        rig.put(100, Kinds.CALL, 110);
        rig.put(110, Kinds.CALL, 120);
        rig.put(120, Kinds.CALL, 130);
        int[] inner = {4095, 4096, FAR, FAR + 1};
        int[] due = {Kinds.STATE, Kinds.PLACE, Kinds.PLACE, Kinds.VALUE};
        for (int i = 0; i < 4; i++) {
            rig.put(130, Kinds.CALL, inner[i]);
            checks.due("CALL " + inner[i] + ", four deep", rig.sayJust(Kinds.CALL, 100), due[i]);
        }
        // KIND and CUT: a kind that is none has no words that could be missing.
        rig.put(4095, -1);
        checks.due("no kind as memory's last word", rig.sayJust(Kinds.CALL, 4095), Kinds.NO_KIND);
        checks.due("no kind as the stream's last word", rig.sayJust(Kinds.FLUSH, 26), Kinds.NO_KIND);
    }

    // ---- what is kept

    private static void keptByNumber(Checks checks) {
        checks.sentence("What a command told is KEPT, for each kind, of 4 by attribute, of 5 and 6 by uniform, of 9, 24 and 25 by unit, "
            + "of 11 by side.");
        Rig rig = Rig.showing();
        rig.cornersProgram(Rig.handOn(8));
        for (int n = 1; n < 8; n++) {
            rig.put(200 + n, 1000 + n);
            rig.say(Kinds.ATTRIBUTE, n, 200 + n, 0, 1, 0);
        }
        for (int n = 1; n < 8; n++) {
            checks.due("attribute " + n, rig.shown(new int[0], Rig.IN, n, 0), 1000 + n);
        }
        Rig uniforms = Rig.showing();
        uniforms.put(300, 5, 6, 7, 8);
        uniforms.say(Kinds.UNIFORM, 0, 1, 2, 3, 4, Kinds.UNIFORM, 28, 9, 10, 11, 12, Kinds.UNIFORMS, 1, 1, 300);
        checks.due("uniform 0", uniforms.shown(new int[0], Rig.UNIFORM, 0, 3), 4);
        checks.due("uniform 1", uniforms.shown(new int[0], Rig.UNIFORM, 1, 3), 8);
        checks.due("uniform 2", uniforms.shown(new int[0], Rig.UNIFORM, 2, 0), 0);
        checks.due("uniform 28", uniforms.shown(new int[0], Rig.UNIFORM, 28, 0), 9);
        units(checks);
        for (int side = 0; side < 2; side++) {
            Rig stencils = new Rig();
            stencils.coverAll(1, 1);
            stencils.placesProgram(Rig.stop());
            stencils.say(Kinds.STENCIL, 1, 7, 20, 255, 255, 0, 0, 2, Kinds.STENCIL, 0, 7, 10, 255, 255, 0, 0, 2,
                Kinds.FACES, 0, side, Kinds.DRAW, 0, 0, 3);
            checks.due("the rule of side " + side, stencils.machine.at(0, 0, 2), side == 0 ? 10 : 20);
        }
    }

    /** Each unit has a picture of two bytes, a wrap and a border of its own. */
    private static void units(Checks checks) {
        Rig rig = Rig.showing();
        rig.say(Kinds.UNIFORM, 0, Rig.ONE + Rig.ONE / 2, 0, 0, 0);
        for (int unit = 0; unit < 4; unit++) {
            rig.put(400 + unit, 0x0201 + 0x1010 * unit);
            rig.say(Kinds.TEXTURE, unit, 400 + unit, 1, 0, 1, 4, Kinds.MANNER, unit, unit, 0, 0, Kinds.BORDER, unit, 70 + unit, 0, 0, 0);
        }
        // At 3 of 2 texels: repeated 1, cut 1, mirrored 3 - 3, the border's colour.
        int[] due = {257 * 0x02, 257 * 0x12, 257 * 0x21, 73};
        for (int unit = 0; unit < 4; unit++) {
            int[] one = Rig.set(32, unit, false, Rig.target(Rig.TO_TEMPORARY, 0, Rig.ALL), Rig.source(Rig.UNIFORM, 0));
            checks.due("unit " + unit, rig.shown(one, Rig.TEMPORARY, 0, 0), due[unit]);
        }
    }

    private static void storeAsTheyAre(Checks checks) {
        checks.sentence("STORE puts its words (as they are ahead of that) into memory.");
        for (int moved = -3; moved <= 5; moved++) {
            Rig rig = new Rig();
            int words = 103;
            rig.put(100, Kinds.STORE, words + moved, 5, 1, 2, 3, 4, 5, Kinds.END);
            // Where the words would be put over the list's END, what is behind is none of this.
            rig.sayJust(Kinds.CALL, 100);
            for (int i = 0; i < 5; i++) {
                checks.due("moved by " + moved + ", word " + i, rig.machine.look(words + moved + i), i + 1);
            }
            checks.due("CALL and STORE were done", rig.machine.about(4) >= 2 ? 1 : 0, 1);
        }
    }

    /** For each kind that tells something: a telling, the same command refused, and what both draw. */
    private static void refusedTellsNothing(Checks checks) {
        checks.sentence("A command that is refused tells nothing, and is not counted as done.");
        int[][] told = {
            {Kinds.VIEW, 1, 1, 3, 3, 5, 500}, {Kinds.ATTRIBUTE, 0, 3950, 4, 4, 0}, {Kinds.UNIFORM, 0, 30000, 40000, 50000, 60000},
            {Kinds.TEXTURE, 1, 3950, 1, 1, 1, 0}, {Kinds.DEPTH, 7, 1}, {Kinds.STENCIL, 0, 7, 9, 255, 255, 0, 0, 2},
            {Kinds.BLEND, 6, 7, 1, 0, 0, 0}, {Kinds.LOGIC, 6}, {Kinds.MASK, 7}, {Kinds.FACES, 0, 0}, {Kinds.MANNER, 1, 1, 1, 1},
            {Kinds.UNIFORMS, 0, 1, 3954}};
        int[][] refused = {
            {Kinds.VIEW, 0, 0, 4, 4, 0, 1 << 24}, {Kinds.ATTRIBUTE, 0, 0, 0, 0, 4}, {Kinds.UNIFORM, 32, 0, 0, 0, 0},
            {Kinds.TEXTURE, 1, 0, 2, 2, 2, 8}, {Kinds.DEPTH, 0, 2}, {Kinds.STENCIL, 0, 0, 0, 0, 0, 0, 0, 8},
            {Kinds.BLEND, 0, 0, 0, 0, 0, 5}, {Kinds.LOGIC, 16}, {Kinds.MASK, 16}, {Kinds.FACES, 3, 2}, {Kinds.MANNER, 1, 3, 3, 4},
            {Kinds.UNIFORMS, 0, 1, 4093}};
        for (int i = 0; i < told.length; i++) {
            int[] sums = new int[3];
            for (int tries = 0; tries < 2; tries++) {
                Rig rig = shaded();
                checks.due(Arrays.toString(told[i]), rig.say(told[i]), 0);
                if (tries == 1) {
                    int due = i == told.length - 1 ? Kinds.PLACE : Kinds.VALUE;
                    checks.due(Arrays.toString(refused[i]), rig.say(refused[i]), due);
                    checks.due("not counted as done", rig.machine.about(4), 0);
                }
                checks.due("the draw", rig.draw(), 0);
                for (int what = 0; what < 3; what++) {
                    sums[what] = tries == 0 ? rig.machine.sum(what) : sums[what];
                    checks.due("sum(" + what + ") behind " + Arrays.toString(told[i]), rig.machine.sum(what), sums[what]);
                }
            }
        }
        refusedDoesNothing(checks);
    }

    private static Rig shaded() {
        Rig rig = new Rig();
        rig.coverAll(4, 4);
        rig.placesProgram(Rig.join(
            Rig.set(32, 1, false, Rig.target(Rig.TO_TEMPORARY, 0, Rig.ALL), Rig.source(Rig.IN, 0)),
            Rig.set(5, Rig.TO_OUT, 0, Rig.ALL, Rig.source(Rig.TEMPORARY, 0), Rig.source(Rig.UNIFORM, 0), Rig.source(Rig.UNIFORM, 0)),
            Rig.stop()));
        rig.say(Kinds.UNIFORM, 0, 20000, 21000, 22000, 23000, Kinds.CLEAR, 7, 0x77665544, 1000, 3);
        return rig;
    }

    private static void refusedDoesNothing(Checks checks) {
        Rig rig = new Rig();
        rig.machine.frame(2, 2, 8);
        rig.say(Kinds.CLEAR, 7, 5, 6, 7);
        rig.put(60, 1, 2, 3, 4, 5);
        int[][] refused = {
            {Kinds.CLEAR, 7, 0, 0, 256}, {Kinds.CLEAR, 7, 0, 0}, {Kinds.COPY, 0, 0, 2, 3, 60, 0}, {Kinds.COPY, 0, 0, 1, 1, 60, 3},
            {Kinds.STORE, 60, 2, 9}, {Kinds.STORE, 4095, 2, 9, 9}, {Kinds.QUERY, 0, 0}, {Kinds.SCISSORS, 1, 1, 1}, {Kinds.CONSTANT}};
        for (int[] words : refused) {
            checks.due(Arrays.toString(words), rig.sayJust(words) != 0 ? 1 : 0, 1);
            checks.due("done", rig.machine.about(4), 0);
            checks.due("colour", rig.machine.at(0, 0, 0), 5);
            checks.due("depth", rig.machine.at(0, 0, 1), 6);
            checks.due("stencil", rig.machine.at(0, 0, 2), 7);
            checks.due("word 60", rig.machine.look(60), 1);
            checks.due("word 4095", rig.machine.look(4095), 0);
        }
    }
}
