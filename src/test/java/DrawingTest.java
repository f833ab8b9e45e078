/** Terms, section 7: what programs get, what is kept, and what the README shows. */
final class DrawingTest {
    private static final int ONE = Rig.ONE;

    public static void main(String[] args) {
        Checks checks = new Checks("DrawingTest");
        readme(checks);
        insOfPlaces(checks);
        varyings(checks);
        readBySomeSource(checks);
        programOfCorners(checks);
        neverTold(checks);
        keptByNumber(checks);
        memoryAsItIs(checks);
        overdraw(checks);
        checks.finish();
    }

    private static void readme(Checks checks) {
        DrawingMachine machine = new DrawingMachine();
        checks.due("tiles", machine.frame(16, 16, 8), 4);
        machine.feed(1, 1, -16776961, 0, 0);
        machine.feed(20, 0, 0, 2, 2);
        machine.feed(100, 0, 22, 22, 22);
        checks.due("commands", machine.run(100), 6);
        checks.due("a place", machine.at(5, 5, 0), -16776961);
        checks.due("copied back", machine.look(103), -16776961);
        checks.due("over", machine.about(0), 1);
    }

    private static void insOfPlaces(Checks checks) {
        Rig rig = new Rig();
        rig.coverAll(5, 3);
        rig.tellShowing();
        int[][] places = {{0, 0}, {4, 2}, {3, 1}};
        int[] parts = {0, 1, 2, 3};
        for (int part : parts) {
            rig.shown(new int[0], Rig.IN, 0, part);
            for (int[] place : places) {
                int[] due = {ONE * place[0] + ONE / 2, ONE * place[1] + ONE / 2, 8388607, ONE};
                checks.due("in 0, part " + part + " at " + place[0] + ", " + place[1], rig.machine.at(place[0], place[1], 0), due[part]);
            }
        }
        rig.say(16, 0, 1);
        checks.due("the back", rig.shown(new int[0], Rig.IN, 0, 3), 0);
    }

    private static void varyings(Checks checks) {
        Rig rig = Rig.showing();
        int[] words = new int[28];
        for (int i = 0; i < 28; i++) {
            words[i] = 1000 * i - 5;
        }
        rig.store(100, words);
        rig.cornersProgram(Rig.handOn(8));
        for (int n = 1; n < 8; n++) {
            rig.say(4, n, 100 + 4 * (n - 1), 0, 4, 0);
        }
        for (int i = 0; i < 28; i += 3) {
            checks.due("varying " + i, rig.shown(new int[0], Rig.IN, 1 + i / 4, i % 4), words[i]);
        }
        rig.cornersProgram(Rig.handOn(1));
        checks.due("an out that was not set is 0", rig.shown(new int[0], Rig.IN, 7, 3), 0);
    }

    /** An in is there whichever source it is, and however many of them. */
    private static void readBySomeSource(Checks checks) {
        Rig rig = Rig.showing();
        int in = Rig.source(Rig.IN, 5);
        int one = Rig.source(Rig.UNIFORM, 1);
        int none = Rig.source(Rig.UNIFORM, 2);
        int below = Rig.source(Rig.UNIFORM, 3);
        rig.say(5, 1, ONE, 0, 0, 0, 5, 3, -1, 0, 0, 0, 4, 5, 100, 0, 1, 0);
        // The varying is the attribute less than 0, so that one can't be taken for the other.
        rig.cornersProgram(Rig.join(Rig.set(1, Rig.TO_OUT, 0, Rig.ALL, Rig.source(Rig.IN, 0)), Rig.set(1, Rig.TO_OUT, 5, Rig.ALL, Rig.turned(in)),
            Rig.stop()));
        int[][] rows = {
            Rig.set(1, 0, 0, 1, in), Rig.set(2, 0, 0, 1, none, in), Rig.set(5, 0, 0, 1, none, none, in),
            Rig.set(20, 0, 0, 1, one, in, in), Rig.set(20, 0, 0, 1, below, in, in), Rig.set(8, 0, 0, 1, in, in),
            Rig.set(20, 0, 0, 1, in, in, none), Rig.set(20, 0, 0, 1, in, in, in)};
        for (int i = 0; i < rows.length; i++) {
            rig.put(100, -(i + 1) * ONE);
            checks.due("varying 5 by instruction " + i, rig.shown(rows[i], Rig.TEMPORARY, 0, 0), (i + 1) * ONE);
        }
        Rig corners = Rig.showing();
        corners.say(5, 1, ONE, 0, 0, 0, 5, 3, -1, 0, 0, 0, 4, 5, 100, 0, 1, 0);
        for (int i = 0; i < rows.length; i++) {
            int[] place = Rig.set(1, Rig.TO_OUT, 0, Rig.ALL, Rig.source(Rig.IN, 0));
            int[] handed = Rig.set(1, Rig.TO_OUT, 2, Rig.ALL, Rig.source(Rig.TEMPORARY, 0));
            corners.cornersProgram(Rig.join(place, rows[i], handed, Rig.stop()));
            corners.put(100, (i + 1) * ONE);
            checks.due("attribute 5 by instruction " + i, corners.shown(new int[0], Rig.IN, 2, 0), (i + 1) * ONE);
        }
    }

    private static void programOfCorners(Checks checks) {
        Rig rig = new Rig();
        rig.coverAll(4, 4);
        rig.say(5, 0, ONE, 0, 0, 0, 5, 1, ONE / 2, 0, 0, 0);
        rig.colourOfUniform(0);
        // The corners are moved by uniform 1, half of the view's half.
        rig.cornersProgram(Rig.join(
            Rig.set(2, Rig.TO_OUT, 0, 1, Rig.source(Rig.IN, 0), Rig.source(Rig.UNIFORM, 1)),
            Rig.set(1, Rig.TO_OUT, 0, 14, Rig.source(Rig.IN, 0)), Rig.stop()));
        rig.draw();
        checks.due("moved by a quarter of the frame", rig.machine.count(8), 12);
        checks.due("the first column is not covered", rig.machine.at(0, 0, 0), 0);
        checks.due("the second one is", rig.machine.at(1, 0, 0), 255);
    }

    /** What was never told: 0, but for some things; in a new object, and behind begin(false). */
    private static void neverTold(Checks checks) {
        for (int i = 0; i < 2; i++) {
            Rig rig = new Rig();
            if (i == 1) {
                rig.coverAll(3, 3);
                rig.say(2, 5, 5, 9, 9, 7, 8, 3, 1, 1, 1, 1, 10, 0, 0, 11, 0, 0, 1, 1, 1, 1, 1, 1, 11, 1, 0, 1, 1, 1, 1, 1, 1);
                rig.say(12, 1, 1, 1, 1, 2, 2, 13, -1, 14, 6, 15, 0, 16, 3, 1, 9, 0, 9, 3, 3, 4, 3, 24, 0, 3, 3, 3, 25, 0, 9, 9, 9, 9);
                rig.machine.begin(false);
            }
            rig.machine.frame(2, 2, 8);
            rig.put(100, -ONE, -ONE, 0, ONE, 3 * ONE, -ONE, 0, ONE, -ONE, 3 * ONE, 0, ONE);
            rig.put(0, 0x44332211);
            rig.cornersProgram(Rig.handOn(1));
            rig.placesProgram(Rig.join(Rig.set(33, 0, false, Rig.target(Rig.TO_OUT, 0, Rig.ALL), Rig.source(Rig.IN, 0)), Rig.stop()));
            rig.say(4, 0, 100, 4, 4, 0, 17, 0, 0, 3);
            checks.due("a view of one place, and unit 0 is word 0", rig.machine.at(0, 0, 0), 0x44332211);
            checks.due("one place was drawn", rig.machine.count(6), 1);
            checks.due("no depth is written", rig.machine.at(0, 0, 1), 0);
            checks.due("no stencil", rig.machine.at(0, 0, 2), 0);
            rig.say(10, 7, 1, 17, 0, 0, 3);
            checks.due("near 0, far 2^24 - 1", rig.machine.at(0, 0, 1), 8388607);
        }
    }

    private static void keptByNumber(Checks checks) {
        Rig rig = Rig.showing();
        for (int n = 0; n < 29; n += 4) {
            rig.say(5, n, n, n + 100, n + 200, n + 300);
        }
        for (int n = 0; n < 29; n += 4) {
            checks.due("uniform " + n, rig.shown(new int[0], Rig.UNIFORM, n, 2), n + 200);
        }
    }

    private static void memoryAsItIs(Checks checks) {
        Rig rig = Rig.showing();
        rig.placesProgram(Rig.show(Rig.IN, 1, 0));
        rig.cornersProgram(Rig.handOn(2));
        // A draw, its colour copied into the attribute's word, changed, and a draw again.
        rig.put(20, 5);
        rig.say(4, 1, 20, 0, 1, 0, 17, 0, 0, 3, 20, 0, 0, 1, 1, 21, 0, 21, 20, 1, 77, 17, 0, 0, 3, 20, 0, 0, 1, 1, 22, 0);
        checks.due("the first draw", rig.machine.look(21), 5);
        checks.due("the second draw", rig.machine.look(22), 77);
    }

    private static void overdraw(Checks checks) {
        Rig rig = new Rig();
        rig.coverAll(2, 2);
        rig.say(5, 0, ONE, 0, 0, 0);
        rig.colourOfUniform(0);
        // The same places once more: s + d by blending, 100 and 100; then the triangles of one draw in order.
        rig.say(12, 1, 1, 1, 1, 0, 0, 5, 0, 25700, 0, 0, 0, 17, 0, 0, 3, 17, 0, 0, 3);
        checks.due("drawn twice", rig.machine.at(1, 1, 0), 200);
        rig.put(0, 0, 1, 2, 0, 1, 2);
        rig.say(1, 1, 0, 0, 0, 18, 0, 0, 6, 0, 0);
        checks.due("two triangles in one draw", rig.machine.at(1, 1, 0), 200);
    }
}
