/** Terms, section 3: attributes, indices, the order of corners, cutting and laying. */
final class CornersTest {
    private static final int ONE = Rig.ONE;

    public static void main(String[] args) {
        Checks checks = new Checks("CornersTest");
        attributes(checks);
        steps(checks);
        indices(checks);
        orders(checks);
        cutting(checks);
        laying(checks);
        farDepth(checks);
        sides(checks);
        checks.finish();
    }

    /** The four parts of attribute 1, which is the same one for all vertices, of some words from 100 on. */
    private static void attribute(Checks checks, String what, int[] words, int from, int parts, int type, int... due) {
        Rig rig = Rig.showing();
        rig.cornersProgram(Rig.handOn(2));
        rig.put(100, words);
        rig.say(4, 1, from, 0, parts, type);
        for (int p = 0; p < 4; p++) {
            checks.due(what + ", part " + p, rig.shown(new int[0], Rig.IN, 1, p), due[p]);
        }
    }

    private static void attributes(Checks checks) {
        int[] words = {11, -22, 33, Integer.MIN_VALUE, 55};
        for (int parts = 0; parts <= 4; parts++) {
            int[] due = {0, 0, 0, ONE};
            System.arraycopy(words, 0, due, 0, parts);
            attribute(checks, "type 0, " + parts + " parts", words, 100, parts, 0, due);
        }
        int[] bytes = {0xFF800100, 0x7F};
        attribute(checks, "type 1", bytes, 100, 4, 1, 0, 257, 32897, ONE);
        attribute(checks, "type 1, 2 parts", bytes, 100, 2, 1, 0, 257, 0, ONE);
        attribute(checks, "type 1, 0x7F", bytes, 101, 1, 1, 32639, 0, 0, ONE);
        int[] halves = {0x80007FFF, 0x0001FFFF};
        attribute(checks, "type 2", halves, 100, 4, 2, 32767 * 256, -32768 * 256, -256, 256);
        attribute(checks, "type 2, 3 parts", halves, 100, 3, 2, 32767 * 256, -32768 * 256, -256, ONE);
        int[] signed = {0x80FF7F01};
        attribute(checks, "type 3", signed, 100, 4, 3, ONE, 127 * ONE, -ONE, -128 * ONE);
        attribute(checks, "type 3, no part", signed, 100, 0, 3, 0, 0, 0, ONE);
        attribute(checks, "beyond memory", words, 4096, 4, 0, 0, 0, 0, 0);
        attribute(checks, "far beyond memory", words, 1 << 20, 4, 1, 0, 0, 0, 0);
    }

    /** The number at the only place behind a draw, or what was there if it drew nothing. */
    private static int shownOf(Rig rig, int... command) {
        rig.say(1, 1, 0x1234567, 0, 0);
        int refused = rig.say(command);
        return refused == 0 ? rig.machine.at(0, 0, 0) : -refused;
    }

    /** Nine vertices whose triangles each cover the only place, and show attribute 1. */
    private static Rig byVertex() {
        Rig rig = Rig.showing();
        rig.placesProgram(Rig.show(Rig.IN, 1, 0));
        // Corners at words 200 + 8 i, and a number at 204 + 8 i; three in a row have one number.
        int[][] places = {{-ONE, -ONE}, {3 * ONE, -ONE}, {-ONE, 3 * ONE}};
        for (int i = 0; i < 9; i++) {
            rig.put(200 + 8 * i, places[i % 3][0], places[i % 3][1], 0, ONE, 1000 + i / 3);
        }
        rig.cornersProgram(Rig.handOn(2));
        rig.say(4, 0, 200, 8, 4, 0, 4, 1, 204, 8, 1, 0);
        return rig;
    }

    private static void steps(Checks checks) {
        Rig rig = byVertex();
        checks.due("first 0", shownOf(rig, 17, 0, 0, 3), 1000);
        checks.due("first 3", shownOf(rig, 17, 0, 3, 3), 1001);
        checks.due("first 6", shownOf(rig, 17, 0, 6, 3), 1002);
        checks.due("two triangles, the last one stays", shownOf(rig, 17, 0, 3, 6), 1002);
        checks.due("five vertices are one triangle", shownOf(rig, 17, 0, 3, 5), 1001);
        rig.say(4, 1, 204, 1, 1, 0);
        checks.due("the step is in words", shownOf(rig, 17, 0, 0, 1), 0x1234567);
        rig.say(4, 0, 200, 8, 4, 0, 4, 1, 220, 0, 1, 0);
        checks.due("step 0: one for all", shownOf(rig, 17, 0, 3, 3), 1000);
        rig.say(4, 0, 224 + 1024 * 8, 8, 4, 0, 4, 1, 204, 0, 1, 0);
        rig.put(0, 0, 1, 2);
        checks.due("a base below 0", shownOf(rig, 18, 0, 0, 3, 0, -1024), 1000);
        rig.put(0, Integer.MAX_VALUE, Integer.MIN_VALUE, Integer.MIN_VALUE + 1);
        checks.due("base and index wrap", shownOf(rig, 18, 0, 0, 3, 0, Integer.MIN_VALUE + 1 - 1024), 1000);
    }

    private static void indices(Checks checks) {
        Rig rig = byVertex();
        rig.put(10, 3, 4, 5);
        checks.due("indices that are words", shownOf(rig, 18, 0, 10, 3, 0, 0), 1001);
        checks.due("with a base", shownOf(rig, 18, 0, 10, 3, 0, 3), 1002);
        checks.due("with a base below 0", shownOf(rig, 18, 0, 10, 3, 0, -3), 1000);
        rig.put(10, 6 | 7 << 16, 8);
        checks.due("indices that are halves", shownOf(rig, 18, 0, 10, 3, 1, 0), 1002);
        rig.put(10, 3 | 4 << 8 | 5 << 16 | 6 << 24, 7 | 8 << 8);
        checks.due("indices that are bytes", shownOf(rig, 18, 0, 10, 6, 2, 0), 1002);
        rig.put(10, 0xFFFC | 0xFFFD << 16, 0xFFFE);
        checks.due("halves have no sign", shownOf(rig, 18, 0, 10, 3, 1, -0xFFFC), 1000);
        rig.put(10, 0xFCFDFEFF);
        checks.due("bytes have no sign", shownOf(rig, 18, 0, 10, 3, 2, -0xFD), 1000);
        rig.put(4095, 3);
        checks.due("indices beyond memory are 0: no area", shownOf(rig, 18, 0, 4095, 3, 0, 0), 0x1234567);
    }

    /** Vertices on the corners of squares: a strip's triangles all turn the same way, and so do a fan's. */
    private static void orders(Checks checks) {
        Rig rig = new Rig();
        rig.coverAll(8, 8);
        rig.colourOfUniform(0);
        int[][] strip = {{-1, -1}, {1, -1}, {-1, 0}, {1, 0}, {-1, 1}, {1, 1}};
        for (int i = 0; i < 6; i++) {
            rig.put(4 * i, strip[i][0] * ONE, strip[i][1] * ONE, 0, ONE);
        }
        rig.say(4, 0, 0, 4, 4, 0, 16, 2, 0);
        rig.say(17, 1, 0, 6);
        checks.due("a strip of six: triangles", rig.machine.count(0), 4);
        checks.due("all show the front", rig.machine.count(2), 4);
        checks.due("each place is covered once", rig.machine.count(8), 64);
        int[][] fan = {{-1, -1}, {1, -1}, {1, 0}, {1, 1}, {0, 1}, {-1, 1}};
        for (int i = 0; i < 6; i++) {
            rig.put(4 * i, fan[i][0] * ONE, fan[i][1] * ONE, 0, ONE);
        }
        rig.say(17, 2, 0, 6);
        checks.due("a fan of six: triangles", rig.machine.count(0), 8);
        checks.due("all show the front", rig.machine.count(2), 8);
        checks.due("each place is covered once more", rig.machine.count(8), 128);
        rig.say(17, 0, 0, 6);
        checks.due("a list of six: triangles", rig.machine.count(0), 10);
        rig.say(17, 0, 0, 0, 17, 1, 0, 0, 17, 2, 0, 1, 17, 1, 0, 2, 17, 0, 0, 2);
        checks.due("too few vertices", rig.machine.count(0), 10);
    }

    private static void cutting(Checks checks) {
        Rig rig = Rig.showing();
        rig.placesProgram(Rig.join(Rig.stop()));
        int[][] due = {
            // z of the three corners, their w, how many triangles are made
            {0, 0, 0, ONE, ONE, ONE, 1},
            {-ONE, -ONE, -ONE, ONE, ONE, ONE, 1},
            {-ONE - 1, -ONE - 1, -ONE - 1, ONE, ONE, ONE, 0},
            {-ONE - 1, 0, 0, ONE, ONE, ONE, 2},
            {-ONE - 1, -2 * ONE, 0, ONE, ONE, ONE, 1},
            {0, 0, 0, 256, 256, 256, 1},
            {0, 0, 0, 255, 255, 255, 0},
            {0, 0, 0, 255, ONE, ONE, 2},
            {0, 0, 0, 255, 255, ONE, 1},
            {0, 0, 0, -ONE, ONE, ONE, 2},
            {Integer.MAX_VALUE, 0, 0, Integer.MAX_VALUE, ONE, ONE, 1},
            {Integer.MIN_VALUE, 0, 0, Integer.MIN_VALUE, ONE, ONE, 2},
            {-100000, 0, 0, ONE, 0, ONE, 2},
            {-100000, 0, 0, ONE, 100, ONE, 3}};
        int made = 0;
        for (int[] row : due) {
            for (int j = 0; j < 3; j++) {
                rig.put(4 * j, j == 1 ? ONE : -ONE, j == 2 ? ONE : -ONE, row[j], row[3 + j]);
            }
            rig.say(4, 0, 0, 4, 4, 0, 17, 0, 0, 3);
            made += row[6];
            checks.due(java.util.Arrays.toString(row), rig.machine.count(1), made);
        }
        newCorner(checks);
    }

    /**
     * Corner 0 is inside by 1, the others are outside by -2: f is 65536 / 3, down, 21845. The edge between the two
     * new corners goes through the middle of the only place, where nothing of corner 0 is left.
     */
    private static void newCorner(Checks checks) {
        Rig rig = Rig.showing();
        rig.cornersProgram(Rig.handOn(2));
        rig.put(0, 0, 3 * ONE, 0, ONE, 0, -9 * ONE, -6 * ONE, -3 * ONE, ONE, 900000, 9 * ONE, -6 * ONE, -3 * ONE, ONE, 900000);
        rig.say(4, 0, 0, 5, 4, 0, 4, 1, 4, 5, 1, 0);
        checks.due("the number of a new corner", rig.shown(new int[0], Rig.IN, 1, 0), 299995);
        checks.due("one triangle", rig.machine.count(1), 1);
        rig.put(4, -5);
        rig.put(9, -900000);
        rig.put(14, -900000);
        // -5 + (-899995 * 21845 / 65536, down)
        checks.due("below 0", rig.shown(new int[0], Rig.IN, 1, 0), -5 - 299994);
        // By EYE: inside by 65280, outside by -130816: f is 65536 * 65280 / 196096, down, 21816.
        int y = 9 * 21816;
        rig.put(0, 0, y, 100000, ONE, 0, -9 * ONE, y - 9 * ONE, 200000, -130560, 1 << 30);
        rig.put(10, 9 * ONE, y - 9 * ONE, 200000, -130560, 1 << 30);
        checks.due("by EYE", rig.shown(new int[0], Rig.IN, 1, 0), (int) ((1L << 30) * 21816 >> 16));
    }

    private static void laying(Checks checks) {
        Rig rig = new Rig();
        rig.coverAll(1, 1);
        rig.placesProgram(Rig.stop());
        // The depth of a triangle whose corners are all alike but in x and y.
        int[][] depths = {
            // z, w, near, far, due
            {0, ONE, 0, 16777215, 8388607}, {-ONE, ONE, 0, 16777215, 0}, {ONE, ONE, 0, 16777215, 16777215},
            {2 * ONE, ONE, 0, 16777215, 16777215}, {0, ONE, 16777215, 0, 8388607}, {-ONE, ONE, 500, 10, 500}, {ONE, ONE, 500, 10, 10},
            {3 * ONE, ONE, 500, 10, 0}, {1, ONE, 0, 100, 50}, {-1, ONE, 0, 100, 49}, {-1, ONE, 100, 0, 50}, {1, 2 * ONE, 0, 16777215, 8388607},
            {Integer.MAX_VALUE, 256, 0, 1, 4194304}, {Integer.MAX_VALUE, 256, 0, 16777215, 16777215},
            {Integer.MAX_VALUE, 256, 16777215, 0, 0}, {Integer.MAX_VALUE, 256, 7, 7, 7}};
        for (int[] row : depths) {
            int w = row[1];
            rig.put(0, -w, -w, row[0], w, 3 * w, -w, row[0], w, -w, 3 * w, row[0], w);
            rig.say(4, 0, 0, 4, 4, 0, 2, 0, 0, 1, 1, row[2], row[3], 10, 7, 1, 17, 0, 0, 3);
            checks.due("depth of " + java.util.Arrays.toString(row), rig.machine.at(0, 0, 1), row[4]);
        }
        views(checks);
    }

    private static void views(Checks checks) {
        Rig rig = new Rig();
        rig.coverAll(8, 8);
        rig.say(5, 0, ONE, ONE, ONE, ONE);
        rig.colourOfUniform(0);
        // A rectangle of the view, as two triangles: from (-1, -1) to (1, 1) is all of it.
        int[][] square = {{-1, -1}, {1, -1}, {-1, 1}, {1, 1}};
        for (int i = 0; i < 4; i++) {
            rig.put(4 * i, square[i][0] * ONE, square[i][1] * ONE, 0, ONE);
        }
        int[][] views = {{0, 0, 8, 8, 64}, {2, 3, 4, 2, 8}, {-1, -1, 4, 4, 9}, {6, 7, 1024, 1024, 2}, {-1023, 0, 1023, 8, 0}, {-1023, 0, 1024, 8, 8},
            {8, 0, 1, 1, 0}, {7, 7, 1, 1, 1}};
        int covered = 0;
        for (int[] view : views) {
            rig.say(1, 1, 0, 0, 0, 4, 0, 0, 4, 4, 0, 2, view[0], view[1], view[2], view[3], 0, 0, 17, 1, 0, 4);
            covered += view[4];
            checks.due("view " + java.util.Arrays.toString(view), rig.machine.count(8), covered);
            for (int i = 0; i < 64; i++) {
                int x = i % 8;
                int y = i / 8;
                boolean in = x >= view[0] && x < view[0] + view[2] && y >= view[1] && y < view[1] + view[3];
                if (i % 7 == 0) {
                    checks.due("place " + x + ", " + y, rig.machine.at(x, y, 0), in ? -1 : 0);
                }
            }
        }
        // Far out, corners are cut to -16384 .. 16383: what is left of a huge square is all of the frame.
        for (int i = 0; i < 4; i++) {
            rig.put(4 * i, square[i][0] * Integer.MAX_VALUE, square[i][1] * Integer.MAX_VALUE, 0, 256);
        }
        rig.say(2, 0, 0, 1024, 1024, 0, 0, 17, 1, 0, 4);
        checks.due("a huge square", rig.machine.count(8), covered + 64);
    }

    private static void farDepth(Checks checks) {
        Rig rig = new Rig();
        rig.coverAll(1, 1);
        rig.placesProgram(Rig.stop());
        // (z * 65536 / w + 65536) times (far - near) passes 63 bits here, and must not wrap.
        for (int z = Integer.MAX_VALUE; z > Integer.MAX_VALUE - 3; z--) {
            rig.put(0, -256, -256, z, 256, 3 * 256, -256, z, 256, -256, 3 * 256, z, 256);
            rig.say(4, 0, 0, 4, 4, 0, 2, 0, 0, 1, 1, 0, 16777215, 10, 7, 1, 17, 0, 0, 3);
            checks.due("depth of z " + z, rig.machine.at(0, 0, 1), 16777215);
        }
    }

    private static void sides(Checks checks) {
        Rig rig = Rig.showing();
        int[] front = {-ONE, -ONE, 0, ONE, 3 * ONE, -ONE, 0, ONE, -ONE, 3 * ONE, 0, ONE};
        int[] back = {-ONE, -ONE, 0, ONE, -ONE, 3 * ONE, 0, ONE, 3 * ONE, -ONE, 0, ONE};
        rig.placesProgram(Rig.show(Rig.IN, 0, 3));
        int shown = 0;
        for (int out = 0; out < 4; out++) {
            for (int clock = 0; clock < 2; clock++) {
                for (int turn = 0; turn < 2; turn++) {
                    rig.put(0, turn == 0 ? front : back);
                    rig.say(1, 1, 99, 0, 0, 4, 0, 0, 4, 4, 0, 16, out, clock, 17, 0, 0, 3);
                    boolean isFront = turn == clock;
                    boolean leftOut = (out & (isFront ? 1 : 2)) != 0;
                    shown += leftOut ? 0 : 1;
                    String what = "out " + out + ", clock " + clock + ", turned " + turn;
                    checks.due(what, rig.machine.count(2), shown);
                    checks.due(what, rig.machine.at(0, 0, 0), leftOut ? 99 : isFront ? ONE : 0);
                }
            }
        }
        rig.put(0, -ONE, -ONE, 0, ONE, ONE, ONE, 0, ONE, 0, 0, 0, ONE);
        rig.say(16, 0, 0, 17, 0, 0, 3);
        checks.due("without area it is left out", rig.machine.count(2), shown);
    }
}
