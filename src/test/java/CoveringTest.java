/** Terms, section 4: which places a triangle covers, and its depth and values there. */
final class CoveringTest {
    private static final int ONE = Rig.ONE;

    public static void main(String[] args) {
        Checks checks = new Checks("CoveringTest");
        edges(checks);
        onceEach(checks);
        depths(checks);
        values(checks);
        sharesShifted(checks);
        checks.finish();
    }

    /** A view of 16 places, in which x and y of 512 k - ONE are laid at k sixteenths. */
    private static Rig rig(int outs) {
        Rig rig = new Rig();
        rig.coverAll(16, 16);
        rig.tellShowing();
        rig.say(5, 0, ONE, ONE, ONE, ONE);
        rig.colourOfUniform(0);
        rig.cornersProgram(Rig.handOn(outs));
        rig.say(4, 0, 0, 5, 4, 0, 4, 1, 4, 5, 1, 0);
        return rig;
    }

    private static void corner(Rig rig, int j, int x, int y, int z, int w, int number) {
        long wide = w;
        rig.put(5 * j, (int) ((512L * x - ONE) * wide / ONE), (int) ((512L * y - ONE) * wide / ONE), z, w, number);
    }

    private static void triangle(Rig rig, int... places) {
        for (int j = 0; j < 3; j++) {
            corner(rig, j, places[2 * j], places[2 * j + 1], 0, ONE, 0);
        }
        rig.say(1, 1, 0, 0, 0, 17, 0, 0, 3);
    }

    private static void covered(Checks checks, String what, int[] triangle, int... places) {
        Rig rig = rig(1);
        triangle(rig, triangle);
        checks.due(what + ": places", rig.machine.count(8), places.length / 2);
        for (int i = 0; i < places.length; i += 2) {
            checks.due(what + ": " + places[i] + ", " + places[i + 1], rig.machine.at(places[i], places[i + 1], 0), -1);
        }
    }

    private static void edges(Checks checks) {
        // Each edge goes through middles of places; those on top and left edges are covered alone.
        covered(checks, "top and left", new int[] {8, 8, 40, 8, 8, 40}, 0, 0, 1, 0, 0, 1);
        covered(checks, "turned", new int[] {8, 8, 8, 40, 40, 8}, 0, 0, 1, 0, 0, 1);
        covered(checks, "bottom and right", new int[] {40, 8, 40, 40, 8, 40}, 1, 1);
        covered(checks, "bottom and right, turned", new int[] {40, 8, 8, 40, 40, 40}, 1, 1);
        covered(checks, "bottom and left", new int[] {8, 8, 40, 40, 8, 40}, 0, 1);
        covered(checks, "top and right", new int[] {8, 8, 40, 8, 40, 40}, 0, 0, 1, 0, 1, 1);
        covered(checks, "just a place", new int[] {8, 8, 9, 8, 8, 9}, 0, 0);
        Rig least = rig(1);
        least.say(16, 2, 0);
        triangle(least, 8, 8, 9, 8, 8, 9);
        checks.due("the least area shows its front", least.machine.count(2), 1);
        triangle(least, 8, 8, 8, 9, 9, 8);
        checks.due("and turned its back, which is left out", least.machine.count(2), 1);
        covered(checks, "just beside a place", new int[] {9, 8, 10, 8, 9, 9});
        covered(checks, "without area", new int[] {8, 8, 40, 8, 72, 8});
        covered(checks, "the frame's last place", new int[] {248, 248, 256, 248, 248, 256}, 15, 15);
        covered(checks, "beyond the frame", new int[] {256, 256, 512, 256, 256, 512});
        covered(checks, "ahead of the frame", new int[] {-100, -100, -1, -100, -100, -1});
        covered(checks, "out of the frame and in", new int[] {-24, -24, 56, -24, -24, 56}, 0, 0);
    }

    private static void onceEach(Checks checks) {
        // Triangles around a point, all the way round: each place in them is covered once.
        int[][] points = {{8, 8}, {120, 8}, {248, 8}, {248, 136}, {248, 248}, {104, 248}, {8, 248}, {8, 72}};
        for (int[] middle : new int[][] {{136, 136}, {120, 88}, {33, 71}, {9, 9}}) {
            Rig rig = rig(1);
            for (int i = 0; i < points.length; i++) {
                int[] next = points[(i + 1) % points.length];
                triangle(rig, middle[0], middle[1], points[i][0], points[i][1], next[0], next[1]);
            }
            checks.due("places around " + middle[0] + ", " + middle[1], rig.machine.count(8), 15 * 15);
        }
    }

    private static void depths(Checks checks) {
        Rig rig = rig(1);
        rig.say(10, 7, 1);
        corner(rig, 0, 8, 8, -ONE, ONE, 0);
        corner(rig, 1, 40, 8, ONE, ONE, 0);
        corner(rig, 2, 8, 40, 0, ONE, 0);
        rig.say(17, 0, 0, 3);
        checks.due("at corner 0", rig.machine.at(0, 0, 1), 0);
        checks.due("between 0 and 1", rig.machine.at(1, 0, 1), 16777215 / 2);
        checks.due("between 0 and 2", rig.machine.at(0, 1, 1), 8388607 / 2);
        // Turned, each corner keeps its own depth.
        corner(rig, 2, 40, 8, ONE, ONE, 0);
        corner(rig, 1, 8, 40, 0, ONE, 0);
        rig.say(1, 2, 0, 0, 0, 17, 0, 0, 3);
        checks.due("turned, between 0 and what was 1", rig.machine.at(1, 0, 1), 16777215 / 2);
        checks.due("turned, between 0 and what was 2", rig.machine.at(0, 1, 1), 8388607 / 2);
    }

    private static int shown(Rig rig, int x, int y) {
        rig.placesProgram(Rig.show(Rig.IN, 1, 0));
        rig.say(1, 1, 0, 0, 0, 17, 0, 0, 3);
        return rig.machine.at(x, y, 0);
    }

    private static void values(Checks checks) {
        Rig rig = rig(2);
        corner(rig, 0, 8, 8, 0, ONE, 100);
        corner(rig, 1, 40, 8, 0, ONE, 301);
        corner(rig, 2, 8, 40, 0, ONE, -200);
        checks.due("at corner 0", shown(rig, 0, 0), 100);
        checks.due("between 0 and 1, down", shown(rig, 1, 0), 200);
        checks.due("between 0 and 2", shown(rig, 0, 1), -50);
        corner(rig, 2, 8, 40, 0, ONE, -201);
        checks.due("below 0, down", shown(rig, 0, 1), -51);
        // Twice as far away, Q is half as great: of three shares two are corner 0's.
        corner(rig, 0, 8, 8, 0, ONE, 0);
        corner(rig, 1, 40, 8, 0, 2 * ONE, 300);
        checks.due("nearer and farther", shown(rig, 1, 0), 100);
        corner(rig, 1, 40, 8, 0, 3 * ONE, 300);
        // Q is 16384 and 5461: 300 * 5461 / 21845, down.
        checks.due("three times as far", shown(rig, 1, 0), 74);
        // So far away that 2^30 divided by w is 0, Q is 1 all the same, beside 2.
        corner(rig, 0, 8, 8, 0, 3 << 29, 0);
        corner(rig, 1, 40, 8, 0, 1 << 29, 300);
        checks.due("Q is at least 1", shown(rig, 1, 0), 200);
        corner(rig, 0, 8, 8, 0, ONE, Integer.MIN_VALUE);
        corner(rig, 1, 40, 8, 0, ONE, Integer.MAX_VALUE);
        checks.due("the ends of the range", shown(rig, 1, 0), -1);
    }

    private static void sharesShifted(Checks checks) {
        Rig rig = rig(2);
        // w is 256, Q 2^22; the area is 256 * 256, and half of it times Q is 2^37: shifted by 9, below 2^29.
        corner(rig, 0, 8, 8, 0, 256, 0);
        corner(rig, 1, 264, 8, 0, 256, 1000);
        corner(rig, 2, 8, 264, 0, ONE * 1000, 1 << 30);
        checks.due("half way between 0 and 1", shown(rig, 8, 0), 500);
        // Half way to corner 2, whose Q is 16: its share 2^15 * 16 / 2^9 is 1024 beside 2^28.
        checks.due("half way between 0 and 2", shown(rig, 0, 8), (int) ((1L << 40) / ((1 << 28) + 1024)));
        checks.due("a quarter of the way to 2", shown(rig, 0, 4), quarter());
    }

    /** Weights 3 * 2^14 and 2^14, times Q 2^22 and 16: 3 * 2^36 and 2^18, of which the first has 38 bits. */
    private static int quarter() {
        long first = 3L << 36 >> 9;
        long second = 1L << 18 >> 9;
        return (int) ((second << 30) / (first + second));
    }
}
