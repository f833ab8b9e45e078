import java.util.Arrays;
import java.util.List;

/** Terms, section 7: each sentence that names an edge, one after the other. */
final class EdgesOfDrawingTest {
    private static final int ONE = Rig.ONE;
    private static final int DEEP = (1 << 24) - 1;
    private static final int DEPTH = 8388607;

    public static void main(String[] args) {
        Checks checks = new Checks("EdgesOfDrawingTest");
        for (int i = 0; i < 2; i++) {
            neverTold(checks, i == 1);
            neverToldOfPlaces(checks, i == 1);
            neverToldOfTextures(checks, i == 1);
        }
        noPrograms(checks);
        memoryBehind(checks);
        programAsItIs(checks);
        programWithAFault(checks);
        workOfPlaces(checks);
        workOfCorners(checks);
        workOfAllDraws(checks);
        workAndOtherNumbers(checks);
        eachOnce(checks);
        insOfPlaces(checks);
        insBesideVaryings(checks);
        otherOuts(checks);
        killed(checks);
        queries(checks);
        copies(checks);
        flush(checks);
        checks.finish();
    }

    // ---- what was never told

    /** A new object, or one that was told all it can be and then began anew, told nothing. */
    private static Rig untold(boolean forgotten) {
        Rig rig = new Rig();
        if (forgotten) {
            rig.say(Kinds.VIEW, 5, 6, 7, 8, 9, 10, Kinds.SCISSORS, 1, 1, 1, 1, Kinds.DEPTH, 0, 1, Kinds.STENCIL, 0, 0, 1, 255, 255, 1, 1, 1,
                Kinds.STENCIL, 1, 0, 1, 255, 255, 1, 1, 1, Kinds.BLEND, 1, 1, 1, 1, 2, 2, Kinds.CONSTANT, -1, Kinds.LOGIC, 6, Kinds.MASK, 0,
                Kinds.FACES, 3, 1);
            for (int n = 0; n < 8; n++) {
                rig.say(Kinds.ATTRIBUTE, n, 100, 3, 2, 1);
            }
            for (int n = 0; n < 32; n += 4) {
                rig.say(Kinds.UNIFORM, n, 1, 2, 3, 4, Kinds.UNIFORM, n + 1, 1, 2, 3, 4, Kinds.UNIFORM, n + 2, 1, 2, 3, 4, Kinds.UNIFORM, n + 3, 1, 2, 3, 4);
            }
            for (int unit = 0; unit < 4; unit++) {
                rig.say(Kinds.TEXTURE, unit, 50, 2, 2, 3, 4, Kinds.MANNER, unit, 3, 3, 3, Kinds.BORDER, unit, 9, 9, 9, 9);
            }
            rig.machine.begin(false);
        }
        return rig;
    }

    /** The triangle of coverAll(), in memory and by attribute 0; nothing else is told. */
    private static void triangle(Rig rig) {
        rig.put(3950, -ONE, -ONE, 0, ONE, 3 * ONE, -ONE, 0, ONE, -ONE, 3 * ONE, 0, ONE);
        rig.cornersProgram(Rig.handOn(8));
        rig.say(Kinds.ATTRIBUTE, 0, 3950, 4, 4, 0);
    }

    private static void neverTold(Checks checks, boolean forgotten) {
        String when = forgotten ? ", forgotten" : ", new";
        checks.sentence("What was never told is 0, but VIEW's wide and high are 1, far 2^24 - 1");
        Rig view = untold(forgotten);
        view.machine.frame(3, 3, 8);
        triangle(view);
        view.placesProgram(Rig.stop());
        view.say(Kinds.CLEAR, 1, 77, 0, 0, Kinds.DEPTH, 7, 1, Kinds.DRAW, 0, 0, 3);
        for (int i = 0; i < 9; i++) {
            checks.due("place " + i + when, view.machine.at(i % 3, i / 3, 0), i == 0 ? 0 : 77);
            checks.due("depth " + i + when, view.machine.at(i % 3, i / 3, 1), i == 0 ? DEPTH : 0);
        }
        view.put(3952, ONE);
        view.put(3956, ONE);
        view.put(3960, ONE);
        view.draw();
        checks.due("far" + when, view.machine.at(0, 0, 1), DEEP);
        checks.sentence("What was never told is 0");
        Rig attributes = untold(forgotten);
        triangle(attributes);
        attributes.tellShowing();
        for (int n = 1; n < 8; n += 3) {
            for (int p = 0; p < 4; p++) {
                checks.due("attribute " + n + ", part " + p + when, attributes.shown(new int[0], Rig.IN, n, p), p == 3 ? ONE : 0);
            }
        }
        checks.due("the place of a vertex: no area" + when, noAttribute(forgotten), 0);
        for (int n : new int[] {0, 13, 28}) {
            Rig uniforms = untold(forgotten);
            triangle(uniforms);
            uniforms.tellShowing();
            for (int p = 0; p < 4; p++) {
                checks.due("uniform " + n + ", part " + p + when, uniforms.shown(new int[0], Rig.UNIFORM, n, p), 0);
            }
        }
    }

    /** All vertices lie in the view's middle, none is cut off. */
    private static int noAttribute(boolean forgotten) {
        Rig rig = untold(forgotten);
        rig.cornersProgram(Rig.handOn(1));
        rig.placesProgram(Rig.stop());
        rig.draw();
        return rig.machine.count(1) == 1 ? rig.machine.count(2) : -1;
    }

    private static void neverToldOfPlaces(Checks checks, boolean forgotten) {
        String when = forgotten ? ", forgotten" : ", new";
        checks.sentence("SCISSORS' x1 -1, .. DEPTH's and STENCIL's tests -1, BLEND's first equation -1, LOGIC -1, MASK 15");
        for (int side = 0; side < 2; side++) {
            Rig rig = untold(forgotten);
            triangle(rig);
            rig.say(Kinds.CLEAR, 7, 0x0A0B0C0D, 0, 0x44, Kinds.UNIFORM, 0, 257 * 1, 257 * 2, 257 * 3, 257 * 4);
            rig.colourOfUniform(0);
            if (side == 1) {
                // The corners the other way round: the back, which is not left out either.
                rig.put(3954, -ONE, 3 * ONE, 0, ONE, 3 * ONE, -ONE, 0, ONE);
            }
            rig.draw();
            checks.due("the colour as it is, side " + side + when, rig.machine.at(0, 0, 0), 0x04030201);
            checks.due("no depth" + when, rig.machine.at(0, 0, 1), 0);
            checks.due("no stencil" + when, rig.machine.at(0, 0, 2), 0x44);
            checks.due("drawn" + when, rig.machine.count(6), 1);
            rig.placesProgram(Rig.join(Rig.set(1, Rig.TO_OUT, 0, Rig.ALL, Rig.part(Rig.IN, 0, 3)), Rig.stop()));
            rig.draw();
            checks.due("the clock does not turn front, side " + side + when, rig.machine.at(0, 0, 0), side == 0 ? -1 : 0);
        }
        checks.sentence("What was never told is 0");
        Rig rig = untold(forgotten);
        triangle(rig);
        rig.say(Kinds.UNIFORM, 0, ONE, ONE, ONE, ONE, Kinds.BLEND, 10, 0, 12, 0, 0, 0);
        rig.colourOfUniform(0);
        rig.draw();
        checks.due("the constant colour" + when, rig.machine.at(0, 0, 0), 0);
    }

    private static void neverToldOfTextures(Checks checks, boolean forgotten) {
        String when = forgotten ? ", forgotten" : ", new";
        checks.sentence("TEXTURE's levels 1");
        for (int unit = 0; unit < 4; unit++) {
            Rig rig = untold(forgotten);
            triangle(rig);
            rig.tellShowing();
            rig.put(0, 0x44332211, -1);
            rig.say(Kinds.UNIFORM, 0, -5 * ONE - 7, 9 * ONE + 99, 3 * ONE + 5, 0);
            int[] one = Rig.set(33, unit, false, Rig.target(Rig.TO_TEMPORARY, 0, Rig.ALL), Rig.source(Rig.UNIFORM, 0));
            for (int p = 0; p < 4; p++) {
                int due = (int) Math.round(65536 * (0x11 * (p + 1)) / 255.0);
                checks.due("unit " + unit + " is word 0, part " + p + when, rig.shown(one, Rig.TEMPORARY, 0, p), due);
            }
            // Its border, once a wrap asks for it, is 0.
            rig.say(Kinds.MANNER, unit, 3, 3, 0);
            for (int p = 0; p < 4; p += 3) {
                checks.due("unit " + unit + ", its border, part " + p + when, rig.shown(one, Rig.TEMPORARY, 0, p), 0);
            }
        }
        // Two texels, half way between them, and beyond the end: near and repeated.
        Rig rig = untold(forgotten);
        triangle(rig);
        rig.tellShowing();
        rig.put(60, 0x0000FF00);
        rig.say(Kinds.TEXTURE, 1, 60, 1, 0, 1, 4, Kinds.UNIFORM, 0, ONE / 2, 0, 0, 0, Kinds.UNIFORM, 1, 2 * ONE, 0, 0, 0);
        int[] due = {ONE, 0};
        for (int n = 0; n < 2; n++) {
            int[] one = Rig.set(32, 1, false, Rig.target(Rig.TO_TEMPORARY, 0, Rig.ALL), Rig.source(Rig.UNIFORM, n));
            checks.due("no MANNER told, reading " + n + when, rig.shown(one, Rig.TEMPORARY, 0, 0), due[n]);
        }
    }

    private static void noPrograms(Checks checks) {
        checks.sentence("there are no programs.");
        Rig rig = new Rig();
        checks.due("new", rig.sayJust(Kinds.DRAW, 0, 0, 3), Kinds.STATE);
        rig.say(Kinds.CORNERS_PROGRAM, 0, 1, Kinds.PLACES_PROGRAM, 0, 1);
        checks.due("told", rig.sayJust(Kinds.DRAW, 0, 0, 3), 0);
        rig.machine.begin(true);
        checks.due("kept", rig.sayJust(Kinds.DRAW, 0, 0, 3), 0);
        rig.machine.begin(false);
        checks.due("forgotten", rig.sayJust(Kinds.DRAW, 0, 0, 3), Kinds.STATE);
        checks.due("forgotten, by index, none", rig.sayJust(Kinds.DRAW_BY_INDEX, 0, 0, 0, 0, 0), Kinds.STATE);
        rig.say(Kinds.PLACES_PROGRAM, 0, 1);
        checks.due("one is there", rig.sayJust(Kinds.DRAW, 0, 0, 3), Kinds.STATE);
        rig.say(Kinds.CORNERS_PROGRAM, 0, 1);
        checks.due("both are", rig.sayJust(Kinds.DRAW, 0, 0, 3), 0);
    }

    // ---- memory and programs

    private static void memoryBehind(Checks checks) {
        checks.sentence("A word of memory that is changed is so for all that is done behind.");
        Rig rig = Rig.showing();
        rig.cornersProgram(Rig.handOn(2));
        rig.put(20, 5);
        rig.placesProgram(Rig.show(Rig.IN, 1, 0));
        rig.say(Kinds.ATTRIBUTE, 1, 20, 0, 1, 0, Kinds.DRAW, 0, 0, 3, Kinds.COPY, 0, 0, 1, 1, 30, 0, Kinds.STORE, 20, 1, 77, Kinds.DRAW, 0, 0, 3,
            Kinds.COPY, 0, 0, 1, 1, 31, 0, Kinds.COPY, 0, 0, 1, 1, 20, 1, Kinds.DRAW, 0, 0, 3, Kinds.COPY, 0, 0, 1, 1, 32, 0);
        checks.due("the first draw", rig.machine.look(30), 5);
        checks.due("behind STORE", rig.machine.look(31), 77);
        checks.due("behind COPY of a depth", rig.machine.look(32), 0);
        // Indices and textures likewise; UNIFORMS keeps what was there when it was done.
        rig.put(40, 1, 2, 3, 4);
        rig.say(Kinds.UNIFORMS, 0, 1, 40, Kinds.STORE, 40, 4, 9, 9, 9, 9);
        checks.due("uniforms are kept", rig.shown(new int[0], Rig.UNIFORM, 0, 0), 1);
        rig.put(50, 0x01);
        rig.say(Kinds.TEXTURE, 0, 50, 0, 0, 1, 4, Kinds.STORE, 50, 1, 0xFF);
        int[] one = Rig.set(32, 0, false, Rig.target(Rig.TO_TEMPORARY, 0, Rig.ALL), Rig.source(Rig.NOTHING, 0));
        checks.due("textures are not", rig.shown(one, Rig.TEMPORARY, 0, 0), ONE);
    }

    private static void programAsItIs(Checks checks) {
        checks.sentence("A command 7 or 8 reads its program (section 2, for corners, or for places) from memory as it is then; later changes don't "
            + "change it.");
        Rig rig = new Rig();
        rig.coverAll(1, 1);
        rig.say(Kinds.UNIFORM, 0, ONE, 0, 0, 0);
        rig.colourOfUniform(0);
        for (int place = 3000; place < 3006; place++) {
            rig.put(place, 63);
        }
        for (int place = 3900; place < 3906; place++) {
            rig.put(place, 63);
        }
        checks.due("both are overwritten", rig.draw(), 0);
        checks.due("and do as they did", rig.machine.at(0, 0, 0), 255);
        checks.due("read again they have faults", rig.say(Kinds.PLACES_PROGRAM, 3000, 2), Kinds.FAULT);
    }

    private static void programWithAFault(Checks checks) {
        checks.sentence("If it has a fault, the command is refused with number 4 (behind all other numbers), nothing is kept, and the program before "
            + "stays.");
        for (int kind = Kinds.CORNERS_PROGRAM; kind <= Kinds.PLACES_PROGRAM; kind++) {
            Rig rig = new Rig();
            rig.coverAll(1, 1);
            rig.say(Kinds.UNIFORM, 0, ONE, 0, 0, 0);
            rig.colourOfUniform(0);
            // A fault in the last instruction; those ahead of it would do something else.
            rig.put(700, Rig.join(Rig.set(1, Rig.TO_OUT, 0, Rig.ALL, Rig.source(Rig.NOTHING, 0)), Rig.bare(0, 1)));
            for (int tries = 0; tries < 3; tries++) {
                checks.due("refused, kind " + kind, rig.sayJust(kind, 700, 2), Kinds.FAULT);
                checks.due("not counted", rig.machine.about(4), 0);
                checks.due("its fault", rig.machine.about(7), 4);
                rig.say(Kinds.CLEAR, 1, 0, 0, 0);
                checks.due("the draw", rig.draw(), 0);
                checks.due("by the program before", rig.machine.at(0, 0, 0), 255);
            }
            Rig none = new Rig();
            none.put(700, 63, 0, 0);
            none.say(kind, 700, 1);
            none.say(kind == Kinds.CORNERS_PROGRAM ? Kinds.PLACES_PROGRAM : Kinds.CORNERS_PROGRAM, 0, 1);
            checks.due("where there was none there is none", none.sayJust(Kinds.DRAW, 0, 0, 0), Kinds.STATE);
        }
    }

    // ---- work

    /** Programs of so many steps, in a frame; triangles without area, so that nothing is drawn. */
    private static Rig working(int wide, int high, int cornersSteps, int placesSteps) {
        Rig rig = new Rig();
        rig.machine.frame(wide, high, 8);
        program(rig, Kinds.CORNERS_PROGRAM, cornersSteps);
        program(rig, Kinds.PLACES_PROGRAM, placesSteps);
        return rig;
    }

    private static void program(Rig rig, int kind, int steps) {
        int[] words = steps == 1 ? Rig.stop() : Rig.join(Instructions.padded(ahead(steps), steps));
        rig.store(500, words);
        if (rig.say(kind, 500, words.length / 3) != 0) {
            throw new AssertionError("no program of " + steps + " steps: fault " + rig.machine.about(7));
        }
    }

    /** For many steps a loop in a loop, since 256 instructions alone are too few. */
    private static List<int[]> ahead(int steps) {
        int[] close = Rig.bare(35, 0);
        if (steps > 64500) {
            return List.of(Rig.bare(34, 128), Rig.bare(34, 250), Instructions.FINE, close, close);
        }
        return steps < 8000 ? List.of() : List.of(Rig.bare(34, 30), Rig.bare(34, 250), close, close);
    }

    /** So many triangles in one DRAW, of a list. */
    private static int[] draw(int triangles) {
        return new int[] {Kinds.DRAW, 0, 0, 3 * triangles};
    }

    private static void workOfPlaces(Checks checks) {
        checks.sentence("A DRAW's WORK is its triangles times the sum of 3 times the steps of the corners' program and the frame's places times the "
            + "steps of the places' program");
        int[][] rows = {
            // wide, high, steps for corners and for places, triangles that are 2^23, or less by less than one
            {1, 1, 2, 4090, 2048}, {128, 128, 16384, 1, 128}, {128, 128, 1, 1, 511}, {128, 64, 1, 1, 1023}, {64, 128, 1, 1, 1023}, {7, 11, 5, 100, 1087},
            {1, 1, 5461, 1, 512}, {128, 128, 1, 511, 1}, {16, 32, 4096, 8, 512}};
        for (int[] row : rows) {
            long each = 3L * row[2] + (long) row[0] * row[1] * row[3];
            checks.due("the most for " + Arrays.toString(row), (1 << 23) / each, row[4]);
            Rig rig = working(row[0], row[1], row[2], row[3]);
            int most = Math.min(row[4], 1365);
            int[] words = most < row[4] ? Rig.join(draw(most), draw(row[4] - most)) : draw(most);
            checks.due("all that may be, " + Arrays.toString(row), rig.sayJust(words), 0);
            checks.due("gone over", rig.machine.count(0), row[4]);
            checks.due("one more behind", rig.sayJust(Rig.join(words, draw(1))), Kinds.WORK);
            checks.due("only those before", rig.machine.count(0), 2 * row[4]);
            words[words.length - 1] += 3;
            checks.due("one more in it", rig.sayJust(words), Kinds.WORK);
        }
    }

    private static void workOfCorners(Checks checks) {
        checks.sentence("A DRAW goes over the triangles of its mode, as many as there are for its vertices");
        // 512 triangles are just 2^23: as a list, a strip, a fan, and by index.
        Rig rig = working(1, 1, 5461, 1);
        int[][] just = {{Kinds.DRAW, 0, 0, 1538}, {Kinds.DRAW, 1, 0, 514}, {Kinds.DRAW, 2, 0, 514}, {Kinds.DRAW_BY_INDEX, 0, 0, 1536, 0, 0},
            {Kinds.DRAW_BY_INDEX, 1, 0, 514, 1, 0}, {Kinds.DRAW_BY_INDEX, 2, 0, 514, 2, 0}};
        for (int[] words : just) {
            checks.due(Arrays.toString(words), rig.sayJust(words), 0);
            int[] more = words.clone();
            more[3] += words[1] == 0 ? 3 : 1;
            checks.due(Arrays.toString(more), rig.sayJust(more), Kinds.WORK);
        }
    }

    private static void workOfAllDraws(Checks checks) {
        checks.sentence("if it makes that of all DRAWs since the run began (by begin() or end()) more than 2^23, the command is refused with number 8, "
            + "behind all other numbers, and counts for nothing.");
        Rig rig = working(1, 1, 5461, 1);
        DrawingMachine machine = rig.machine;
        machine.end(0);
        rig.feed(Rig.join(draw(511), draw(0), draw(1), new int[] {Kinds.DRAW, 0, 0, 2}, new int[] {Kinds.DRAW, 1, 0, 2}, draw(1)));
        checks.due("up to 2^23, and draws of none", machine.run(5), 5);
        checks.due("not refused", machine.about(1), 0);
        machine.frame(1, 1, 16);
        machine.run(0);
        int[] counts = new int[9];
        for (int what = 0; what < 9; what++) {
            counts[what] = machine.count(what);
        }
        checks.due("one more", machine.run(1), 0);
        checks.due("WORK", machine.about(1), Kinds.WORK);
        checks.due("over", machine.about(0), 1);
        checks.due("where", machine.about(2), 20);
        checks.due("done", machine.about(4), 5);
        for (int what = 0; what < 9; what++) {
            checks.due("count(" + what + ") stays", machine.count(what), counts[what]);
        }
        machine.begin(true);
        checks.due("begin: all of it once more", machine.run(6), 5);
        machine.end(machine.about(6));
        checks.due("end: all of it once more", machine.run(6), 5);
        // In lists, too; and by the frame that there is when the draw is done.
        rig.put(900, Kinds.DRAW, 0, 0, 3 * 256, Kinds.END);
        checks.due("two lists", rig.sayJust(Kinds.CALL, 900, Kinds.CALL, 900), 0);
        checks.due("and one more", rig.sayJust(Kinds.CALL, 900, Kinds.CALL, 900, Kinds.DRAW, 0, 0, 3), Kinds.WORK);
        machine.frame(2, 1, 8);
        checks.due("a place more: 16385 a triangle", rig.sayJust(draw(512)), Kinds.WORK);
        checks.due("511 of them", rig.sayJust(draw(511)), 0);
    }

    private static void workAndOtherNumbers(Checks checks) {
        checks.sentence("the command is refused with number 8, behind all other numbers");
        Rig rig = working(1, 1, 5461, 1);
        checks.due("WORK alone", rig.sayJust(Kinds.DRAW, 1, 0, 4096), Kinds.WORK);
        checks.due("VALUE goes before", rig.sayJust(Kinds.DRAW, 1, 0, 4097), Kinds.VALUE);
        checks.due("CUT goes before", rig.sayJust(Kinds.DRAW, 1, 0), Kinds.CUT);
        checks.due("by index, VALUE goes before", rig.sayJust(Kinds.DRAW_BY_INDEX, 1, 0, 4096, 3, 0), Kinds.VALUE);
        checks.due("by index, WORK", rig.sayJust(Kinds.DRAW_BY_INDEX, 1, 0, 4096, 2, 0), Kinds.WORK);
        rig.machine.begin(false);
        checks.due("STATE goes before", rig.sayJust(Kinds.DRAW, 1, 0, 4096), Kinds.STATE);
        // As much as can be asked for: it must not wrap round.
        Rig most = new Rig();
        most.machine.frame(128, 128, 8);
        program(most, Kinds.CORNERS_PROGRAM, 65536 - 40);
        program(most, Kinds.PLACES_PROGRAM, 65536 - 40);
        checks.due("as much as can be", most.sayJust(Kinds.DRAW, 1, 0, 4096), Kinds.WORK);
        checks.due("one triangle of it", most.sayJust(Kinds.DRAW, 1, 0, 3), Kinds.WORK);
        checks.due("none of it", most.sayJust(Kinds.DRAW, 1, 0, 2), 0);
    }

    // ---- places

    private static void eachOnce(Checks checks) {
        checks.sentence("of each one that is made, in order, and not left out, all places of the frame that it covers (section 4) are drawn, each once.");
        // One triangle, cut into two at NEAR: the edge between them goes through middles of places.
        Rig rig = new Rig();
        rig.coverAll(8, 8);
        rig.placesProgram(Rig.join(Rig.set(1, Rig.TO_OUT, 0, Rig.ALL, Rig.source(Rig.UNIFORM, 0)), Rig.stop()));
        rig.say(Kinds.UNIFORM, 0, 257, 257, 257, 257, Kinds.BLEND, 1, 1, 1, 1, 0, 0);
        rig.put(0, -ONE, -ONE, 0, ONE, 3 * ONE, -ONE, 0, ONE, -ONE, 5 * ONE, -3 * ONE, ONE);
        rig.say(Kinds.ATTRIBUTE, 0, 0, 4, 4, 0, Kinds.DRAW, 0, 0, 3);
        checks.due("two were made", rig.machine.count(1), 2);
        int once = 0;
        for (int i = 0; i < 64; i++) {
            int colour = rig.machine.at(i % 8, i / 8, 0);
            checks.due("place " + i + " at most once", colour == 0 || colour == 0x01010101 ? 1 : 0, 1);
            once += colour == 0 ? 0 : 1;
        }
        checks.due("as many as were covered", once, rig.machine.count(8));
        checks.due("all of them", once, 64);
        // In order: two triangles over each other, the last one is seen.
        Rig order = new Rig();
        order.coverAll(1, 1);
        order.cornersProgram(Rig.handOn(2));
        order.placesProgram(Rig.join(Rig.set(1, Rig.TO_OUT, 0, Rig.ALL, Rig.source(Rig.IN, 1)), Rig.stop()));
        order.put(0, 0, 1, 2, 3, 4, 5, 3, 4, 5, 0, 1, 2);
        order.put(3962, -ONE, -ONE, 0, ONE, 3 * ONE, -ONE, 0, ONE, -ONE, 3 * ONE, 0, ONE);
        order.put(100, 0, 0, 0, ONE, ONE, ONE);
        order.say(Kinds.ATTRIBUTE, 1, 100, 1, 1, 0, Kinds.DRAW_BY_INDEX, 0, 0, 6, 0, 0);
        checks.due("the second one", order.machine.at(0, 0, 0) & 255, 255);
        order.say(Kinds.DRAW_BY_INDEX, 0, 6, 6, 0, 0);
        checks.due("the other way round", order.machine.at(0, 0, 0) & 255, 0);
    }

    private static void insOfPlaces(Checks checks) {
        checks.sentence("in 0 the place's middle, 65536 x + 32768 and 65536 y + 32768, its depth, and 65536 if the front shows (0 if the back)");
        Rig rig = new Rig();
        rig.coverAll(128, 1);
        rig.tellShowing();
        checks.due("the last place across", at(rig, 0, 127, 0), 127 * ONE + ONE / 2);
        checks.due("the first one", rig.machine.at(0, 0, 0), ONE / 2);
        rig.machine.frame(1, 128, 8);
        rig.say(Kinds.VIEW, 0, 0, 1, 128, 0, DEEP);
        checks.due("the last place down", at(rig, 1, 0, 127), 127 * ONE + ONE / 2);
        checks.due("the first one", rig.machine.at(0, 0, 0), ONE / 2);
        for (int near : new int[] {0, 1, DEEP}) {
            rig.say(Kinds.VIEW, 0, 0, 1, 128, near, near);
            checks.due("depth " + near, at(rig, 2, 0, 64), near);
        }
        for (int clock = 0; clock < 2; clock++) {
            rig.say(Kinds.FACES, 0, clock);
            checks.due("clock " + clock, at(rig, 3, 0, 64), clock == 0 ? ONE : 0);
        }
    }

    private static void insBesideVaryings(Checks checks) {
        checks.sentence("ins 1 .. 7 the varyings there (the corners' X, Y, depths, Q, and the varyings' parts as values 0 .. 27).");
        int w = 3 * ONE;
        for (int clock = 0; clock < 2; clock++) {
            Rig rig = Rig.showing();
            rig.cornersProgram(Rig.handOn(8));
            rig.put(0, -w, -w, 0, w, 3 * w, -w, 0, w, -w, 3 * w, 0, w);
            rig.store(100, sevenVectors());
            rig.say(Kinds.ATTRIBUTE, 0, 0, 4, 4, 0, Kinds.FACES, 0, clock);
            for (int n = 1; n < 8; n++) {
                rig.say(Kinds.ATTRIBUTE, n, 100 + 4 * (n - 1), 0, 4, 0);
            }
            // All ins are read by the program: each is what it would be alone.
            int[][] all = new int[8][];
            for (int n = 0; n < 8; n++) {
                all[n] = Rig.set(1, Rig.TO_TEMPORARY, n, Rig.ALL, Rig.source(Rig.IN, n));
            }
            int[] middle = {ONE / 2, ONE / 2, DEPTH, clock == 0 ? ONE : 0};
            for (int p = 0; p < 4; p++) {
                checks.due("in 0, part " + p + ", clock " + clock, rig.shown(Rig.join(all), Rig.TEMPORARY, 0, p), middle[p]);
                checks.due("in 1, part " + p, rig.shown(Rig.join(all), Rig.TEMPORARY, 1, p), 1000 + p);
                checks.due("in 7, part " + p, rig.shown(Rig.join(all), Rig.TEMPORARY, 7, p), 7000 + p);
            }
        }
    }

    private static int[] sevenVectors() {
        int[] words = new int[28];
        for (int i = 0; i < 28; i++) {
            words[i] = 1000 * (1 + i / 4) + i % 4;
        }
        return words;
    }

    private static void otherOuts(Checks checks) {
        checks.sentence("Otherwise the place is drawn (section 6) with that depth and side, and its out 0 as colour.");
        Rig rig = new Rig();
        rig.coverAll(1, 1);
        rig.say(Kinds.UNIFORM, 0, ONE, ONE, ONE, ONE, Kinds.UNIFORM, 1, 257, 514, 771, 1028);
        int[][] all = new int[9][];
        for (int n = 0; n < 8; n++) {
            all[n] = Rig.set(1, Rig.TO_OUT, n, Rig.ALL, Rig.source(Rig.UNIFORM, n == 0 ? 1 : 0));
        }
        all[8] = Rig.stop();
        rig.placesProgram(Rig.join(all));
        rig.draw();
        checks.due("the outs 1 .. 7 of places count for nothing", rig.machine.at(0, 0, 0), 0x04030201);
    }

    private static int at(Rig rig, int part, int x, int y) {
        rig.shown(new int[0], Rig.IN, 0, part);
        return rig.machine.at(x, y, 0);
    }

    private static void killed(Checks checks) {
        checks.sentence("If it is killed, nothing is done.");
        Rig rig = new Rig();
        rig.coverAll(2, 2);
        rig.say(Kinds.UNIFORM, 0, -1, 0, 0, 0, Kinds.CLEAR, 7, 1, 2, 3, Kinds.STENCIL, 0, 7, 9, 255, 255, 2, 2, 2, Kinds.DEPTH, 7, 1);
        rig.placesProgram(Rig.join(Rig.bare(38, 0, Rig.source(Rig.UNIFORM, 0)), Rig.stop()));
        rig.say(Kinds.QUERY, 1, 1, Kinds.DRAW, 0, 0, 3);
        int[] counts = {1, 1, 1, 0, 0, 0, 0, 4, 4};
        for (int what = 0; what < 9; what++) {
            checks.due("count(" + what + ")", rig.machine.count(what), counts[what]);
        }
        for (int what = 0; what < 3; what++) {
            checks.due("at(1, 1, " + what + ")", rig.machine.at(1, 1, what), what + 1);
        }
        checks.due("query(1)", rig.machine.query(1), 0);
        rig.say(Kinds.SCISSORS, 0, 0, 0, 0, Kinds.DRAW, 0, 0, 3);
        checks.due("killed where it is not open, too", rig.machine.count(7), 8);
        checks.due("no answer 0", rig.machine.count(3), 0);
    }

    private static void queries(Checks checks) {
        checks.sentence("While a query is open, each place whose answer is 3 counts for it.");
        Rig rig = new Rig();
        rig.coverAll(3, 1);
        rig.placesProgram(Rig.stop());
        int[] draw = {Kinds.DRAW, 0, 0, 3};
        rig.say(draw);
        for (int n = 0; n < 8; n++) {
            checks.due("no query open: query(" + n + ")", rig.machine.query(n), 0);
        }
        rig.say(Rig.join(draw, new int[] {Kinds.QUERY, 3, 1}, draw, draw, new int[] {Kinds.QUERY, 3, 0}, draw, draw));
        for (int n = 0; n < 8; n++) {
            checks.due("one open for two draws: query(" + n + ")", rig.machine.query(n), n == 3 ? 6 : 0);
        }
        rig.say(Rig.join(new int[] {Kinds.QUERY, 4, 1, Kinds.SCISSORS, 1, 0, 3, 1}, draw));
        checks.due("not those with the answer 0", rig.machine.query(4), 2);
        rig.say(Rig.join(new int[] {Kinds.QUERY, 5, 1, Kinds.STENCIL, 0, 0, 0, 0, 0, 0, 0, 0}, draw));
        checks.due("nor 1", rig.machine.query(5), 0);
        rig.say(Rig.join(new int[] {Kinds.QUERY, 5, 1, Kinds.STENCIL, 0, -1, 0, 0, 0, 0, 0, 0, Kinds.DEPTH, 0, 0}, draw));
        checks.due("nor 2", rig.machine.query(5), 0);
        rig.machine.begin(true);
        rig.sayJust(Rig.join(new int[] {Kinds.DEPTH, -1, 0}, draw));
        checks.due("begun anew, none is open", rig.machine.query(5), 0);
        checks.sentence("QUERY that begins makes its count 0.");
        rig.say(Rig.join(new int[] {Kinds.QUERY, 3, 1, Kinds.QUERY, 3, 0}));
        checks.due("the one that begins", rig.machine.query(3), 0);
        checks.due("not another one", rig.machine.query(4), 2);
        rig.sayJust(Kinds.QUERY, 4, 0);
        checks.due("one that is refused stays", rig.machine.query(4), 2);
        rig.sayJust(Kinds.QUERY, 3, 1, Kinds.QUERY, 4, 1);
        checks.due("one that may not begin stays", rig.machine.query(4), 2);
    }

    private static void copies(Checks checks) {
        checks.sentence("COPY puts what is told of its places, row by row (what 0 colours, 1 depths, 2 stencils), into memory.");
        Rig rig = new Rig();
        rig.machine.frame(3, 2, 8);
        for (int i = 0; i < 6; i++) {
            rig.say(Kinds.SCISSORS, i % 3, i / 3, i % 3 + 1, i / 3 + 1, Kinds.CLEAR, 7, -1 - i, DEEP - i, 255 - i);
        }
        int[] first = {-1, DEEP, 255};
        for (int what = 0; what < 3; what++) {
            rig.sayJust(Kinds.COPY, 0, 0, 3, 2, 4090, what);
            for (int i = 0; i < 6; i++) {
                checks.due("what " + what + ", word " + i, rig.machine.look(4090 + i), first[what] - i);
            }
            checks.due("the word ahead", rig.machine.look(4089), 0);
            rig.sayJust(Kinds.COPY, 1, 0, 1, 2, 0, what);
            checks.due("one column, first row", rig.machine.look(0), first[what] - 1);
            checks.due("one column, second row", rig.machine.look(1), first[what] - 4);
            checks.due("nothing behind", rig.machine.look(2), 0);
        }
        // Into the very list that is being done: the command behind becomes what was drawn.
        rig.put(100, Kinds.COPY, 0, 0, 1, 1, 107, 2, Kinds.FLUSH, Kinds.END);
        checks.due("the command behind COPY", rig.sayJust(Kinds.CALL, 100), Kinds.NO_KIND);
        checks.due("where", rig.machine.about(2), 107);
    }

    private static void flush(Checks checks) {
        checks.sentence("FLUSH does nothing that can be seen.");
        Rig rig = new Rig();
        rig.coverAll(2, 2);
        rig.placesProgram(Rig.stop());
        rig.say(Kinds.QUERY, 1, 1, Kinds.DRAW, 0, 0, 3);
        int[] seen = seen(rig.machine);
        rig.machine.end(0);
        rig.feed(Kinds.QUERY, 2, 1, Kinds.FLUSH, Kinds.FLUSH);
        rig.machine.run(3);
        checks.due("all as it was", Arrays.toString(seen(rig.machine)), Arrays.toString(seen));
        checks.due("the query is open still", rig.machine.about(5), 2);
        checks.due("it is counted as done", rig.machine.about(4), 3);
    }

    private static int[] seen(DrawingMachine machine) {
        int[] all = new int[13];
        for (int what = 0; what < 9; what++) {
            all[what] = machine.count(what);
        }
        for (int what = 0; what < 3; what++) {
            all[9 + what] = machine.sum(what);
        }
        all[12] = machine.query(1);
        return all;
    }
}
