import java.util.Arrays;

/** Terms, section 4: each sentence that names an edge, one after the other. */
final class EdgesOfCoveringTest {
    private static final int ONE = Rig.ONE;
    private static final int LEAST = Integer.MIN_VALUE;
    private static final int MOST = Integer.MAX_VALUE;
    private static final int[][] ORDERS = {{0, 1, 2}, {1, 2, 0}, {2, 0, 1}, {0, 2, 1}, {2, 1, 0}, {1, 0, 2}};

    public static void main(String[] args) {
        Checks checks = new Checks("EdgesOfCoveringTest");
        topEdges(checks);
        leftEdges(checks);
        otherEdges(checks);
        cornersOfTriangles(checks);
        noArea(checks);
        turned(checks);
        weightsMakeUpTheArea(checks);
        depths(checks);
        shares(checks);
        values(checks);
        remainders(checks);
        checks.finish();
    }

    /** A frame and a view of 16 by 16 places, where 512 k - ONE is laid at k sixteenths. */
    private static Rig ready() {
        Rig rig = new Rig();
        rig.coverAll(16, 16);
        rig.say(Kinds.UNIFORM, 0, ONE, ONE, ONE, ONE);
        rig.colourOfUniform(0);
        rig.say(Kinds.ATTRIBUTE, 0, 0, 4, 4, 0);
        return rig;
    }

    /** Draws a triangle, by its sixteenths, with its corners in each order: whether a place is covered each time. */
    private static void covered(Checks checks, String what, boolean due, int x, int y, int... triangle) {
        Rig rig = ready();
        for (int[] order : ORDERS) {
            for (int j = 0; j < 3; j++) {
                rig.put(4 * j, 512 * triangle[2 * order[j]] - ONE, 512 * triangle[2 * order[j] + 1] - ONE, 0, ONE);
            }
            rig.say(Kinds.CLEAR, 1, 0, 0, 0, Kinds.DRAW, 0, 0, 3);
            checks.due(what + ", corners " + Arrays.toString(order), rig.machine.at(x, y, 0), due ? -1 : 0);
        }
    }

    // Place (1, 1) has its middle at (24, 24).

    private static void topEdges(Checks checks) {
        checks.sentence("each weight is above 0, or is 0 and its edge is a TOP one (Yb is Ya, Xb above Xa)");
        covered(checks, "a top edge through the middle", true, 1, 1, 8, 24, 40, 24, 20, 60);
        covered(checks, "a top edge a sixteenth above", true, 1, 1, 8, 23, 40, 23, 20, 60);
        covered(checks, "a top edge a sixteenth below", false, 1, 1, 8, 25, 40, 25, 20, 60);
        covered(checks, "a bottom edge through the middle", false, 1, 1, 8, 24, 40, 24, 20, 0);
        covered(checks, "a bottom edge a sixteenth below", true, 1, 1, 8, 25, 40, 25, 20, 0);
        covered(checks, "a bottom edge a sixteenth above", false, 1, 1, 8, 23, 40, 23, 20, 0);
    }

    private static void leftEdges(Checks checks) {
        checks.sentence("or a LEFT one (Yb below Ya).");
        covered(checks, "a left edge through the middle", true, 1, 1, 24, 8, 24, 40, 60, 20);
        covered(checks, "a left edge a sixteenth to the left", true, 1, 1, 23, 8, 23, 40, 60, 20);
        covered(checks, "a left edge a sixteenth to the right", false, 1, 1, 25, 8, 25, 40, 60, 20);
        covered(checks, "a left edge that goes down to the right", true, 1, 1, 8, 8, 40, 40, 60, 8);
        covered(checks, "a left edge that goes down to the left", true, 1, 1, 40, 8, 8, 40, 60, 40);
        covered(checks, "a left edge, almost level", true, 1, 1, 8, 23, 40, 25, 200, 23);
        covered(checks, "a left edge, almost level, the other way", true, 1, 1, 8, 25, 40, 23, 40, 60);
    }

    private static void otherEdges(Checks checks) {
        checks.sentence("A place is COVERED if the area is not 0 and each weight is above 0");
        covered(checks, "within", true, 1, 1, 8, 8, 60, 8, 8, 60);
        covered(checks, "a right edge through the middle", false, 1, 1, 24, 8, 24, 40, 0, 20);
        covered(checks, "a right edge a sixteenth to the right", true, 1, 1, 25, 8, 25, 40, 0, 20);
        covered(checks, "a right edge that goes down to the right", false, 1, 1, 8, 8, 40, 40, 8, 40);
        covered(checks, "a right edge that goes down to the left", false, 1, 1, 40, 8, 8, 40, 8, 8);
        covered(checks, "a right edge, almost level", false, 1, 1, 8, 23, 40, 25, 8, 60);
        covered(checks, "a right edge, almost level, the other way", false, 1, 1, 8, 25, 40, 23, 8, 0);
        covered(checks, "on the line of a top edge, but beside it", false, 1, 1, 40, 24, 60, 24, 50, 60);
        covered(checks, "on the line of a left edge, but above it", false, 1, 1, 24, 40, 24, 60, 60, 50);
    }

    private static void cornersOfTriangles(Checks checks) {
        checks.sentence("A place is COVERED if .. each weight is above 0, or is 0 and its edge is a TOP one .. or a LEFT one");
        covered(checks, "a corner of a top and a left edge", true, 1, 1, 24, 24, 60, 24, 24, 60);
        covered(checks, "a corner of a top and a right edge", false, 1, 1, 24, 24, 0, 24, 24, 60);
        covered(checks, "a corner of two left edges", true, 1, 1, 24, 24, 60, 0, 60, 60);
        covered(checks, "a corner of two right edges", false, 1, 1, 24, 24, 0, 0, 0, 60);
        covered(checks, "a corner of a left and a right edge, on top", false, 1, 1, 24, 24, 40, 60, 8, 60);
        covered(checks, "a corner of a left and a right edge, below", false, 1, 1, 24, 24, 8, 0, 40, 0);
        covered(checks, "a corner of a bottom and a left edge", false, 1, 1, 24, 24, 60, 24, 24, 0);
        covered(checks, "a corner of a bottom and a right edge", false, 1, 1, 24, 24, 0, 24, 24, 0);
        covered(checks, "the least triangle, its corner in the middle", true, 1, 1, 24, 24, 25, 24, 24, 25);
        covered(checks, "the least triangle, just beside", false, 1, 1, 25, 24, 26, 24, 25, 25);
    }

    private static void noArea(Checks checks) {
        checks.sentence("if the area is not 0");
        covered(checks, "a level line", false, 1, 1, 8, 24, 40, 24, 60, 24);
        covered(checks, "an upright line", false, 1, 1, 24, 8, 24, 40, 24, 60);
        covered(checks, "a slanting line", false, 1, 1, 8, 8, 40, 40, 24, 24);
        covered(checks, "a point", false, 1, 1, 24, 24, 24, 24, 24, 24);
        covered(checks, "two corners alike", false, 1, 1, 8, 24, 8, 24, 40, 24);
    }

    /** Six orders of the corners: the same depth and number at a place, whichever way they turn. */
    private static void turned(Checks checks) {
        checks.sentence("if that is below 0, the corners 1 and 2 are TURNED: they are taken one for the other in all that is said about edges, "
            + "and the area is as great above 0.");
        int[][] corners = {{0, 0, -ONE, ONE, 1000}, {64, 0, 0, 2 * ONE, -7000}, {0, 64, ONE, 3 * ONE, 50000}};
        int[] depth = new int[6];
        int[] number = new int[6];
        for (int i = 0; i < 6; i++) {
            Rig rig = ready();
            rig.cornersProgram(Rig.handOn(2));
            rig.tellShowing();
            for (int j = 0; j < 3; j++) {
                int[] c = corners[ORDERS[i][j]];
                int w = c[3] / ONE;
                rig.put(5 * j, (512 * c[0] - ONE) * w, (512 * c[1] - ONE) * w, c[2], c[3], c[4]);
            }
            rig.placesProgram(Rig.show(Rig.IN, 1, 0));
            rig.say(Kinds.ATTRIBUTE, 0, 0, 5, 4, 0, Kinds.ATTRIBUTE, 1, 4, 5, 1, 0, Kinds.DEPTH, 7, 1, Kinds.DRAW, 0, 0, 3);
            depth[i] = rig.machine.at(1, 1, 1);
            number[i] = rig.machine.at(1, 1, 0);
            checks.due("the depth, corners " + Arrays.toString(ORDERS[i]), depth[i], depth[0]);
            checks.due("the number, corners " + Arrays.toString(ORDERS[i]), number[i], number[0]);
            checks.due("places, corners " + Arrays.toString(ORDERS[i]), rig.machine.count(8), 6);
        }
        // Weights 16, 24 and 24 of 64: depths 0, 8388607 and 2^23 + 2^23 / 3.
        checks.due("the depth", depth[0], (int) ((24L * 8388607 + 24L * depthOfThird()) / 64));
        // Q is 16384, 8192 and 5461.
        long sum = 16 * 16384 + 24 * 8192 + 24 * 5461;
        checks.due("the number", number[0], Math.floorDiv(16L * 16384 * 1000 - 24L * 8192 * 7000 + 24L * 5461 * 50000, sum));
    }

    /** z is ONE and w 3 ONE: 21845 + 65536 of 131072. */
    private static int depthOfThird() {
        return (int) ((21845L + 65536) * 16777215 / 131072);
    }

    /** With one number at all corners, that number is everywhere, as great as it may be. */
    private static void weightsMakeUpTheArea(Checks checks) {
        checks.sentence("The three weights of a place make up the area.");
        int[][] triangles = {{0, 0, 250, 3, 7, 240}, {-500, -300, 900, 20, -40, 800}, {3, 5, 255, 255, 2, 200}};
        for (int z : new int[] {-ONE, 0, ONE}) {
            for (int[] t : triangles) {
                Rig rig = ready();
                for (int j = 0; j < 3; j++) {
                    rig.put(4 * j, 512 * t[2 * j] - ONE, 512 * t[2 * j + 1] - ONE, z, ONE);
                }
                rig.say(Kinds.DEPTH, 7, 1, Kinds.CLEAR, 2, 0, 77, 0, Kinds.DRAW, 0, 0, 3);
                int due = z < 0 ? 0 : z == 0 ? 8388607 : 16777215;
                for (int i = 0; i < 256; i += 5) {
                    if (rig.machine.at(i % 16, i / 16, 0) != 0) {
                        checks.due("depth at place " + i, rig.machine.at(i % 16, i / 16, 1), due);
                    }
                }
            }
        }
    }

    private static void depths(Checks checks) {
        checks.sentence("the depth is the sum of each corner's weight times its depth, divided by the area, down.");
        // Between corner 0 and corner 1, by n of 8 places; corner 2 counts for nothing on the top edge.
        Rig rig = ready();
        for (int ends = 0; ends < 2; ends++) {
            int z0 = ends == 0 ? -ONE : ONE;
            rig.put(0, 512 * 8 - ONE, 512 * 8 - ONE, z0, ONE, 512 * 136 - ONE, 512 * 8 - ONE, -z0, ONE, 512 * 8 - ONE, 512 * 136 - ONE, 0, ONE);
            rig.say(Kinds.DEPTH, 7, 1, Kinds.CLEAR, 2, 0, 0, 0, Kinds.DRAW, 0, 0, 3);
            for (int n = 0; n < 8; n++) {
                int first = ends == 0 ? n : 8 - n;
                checks.due("depth " + n + " of 8", rig.machine.at(n, 0, 1), (int) (first * 16777215L / 8));
            }
        }
    }

    /** The only place is a third of the way from corner 0 to corner 1, on a top edge: weights 2, 1 and 0 of 3. */
    private static Rig third(int w, int number) {
        Rig rig = Rig.showing();
        rig.cornersProgram(Rig.handOn(2));
        int eighth = w / 8;
        rig.put(0, -eighth, 0, -w, w, 0, 2 * eighth, 0, w, w, number, -eighth, eighth, 0, w, 0);
        rig.say(Kinds.ATTRIBUTE, 0, 0, 5, 4, 0, Kinds.ATTRIBUTE, 1, 4, 5, 1, 0, Kinds.DEPTH, 7, 1);
        return rig;
    }

    private static void remainders(Checks checks) {
        checks.sentence("divided by the area, down.");
        for (int far : new int[] {1, 2, 3, 4, 5, 16777214, 16777215}) {
            Rig rig = third(ONE, 0);
            rig.say(Kinds.VIEW, 0, 0, 1, 1, 0, far);
            rig.placesProgram(Rig.stop());
            rig.draw();
            checks.due("a third of depth " + far, rig.machine.at(0, 0, 1), far / 3);
        }
        checks.sentence("divided by the sum of the shares, down.");
        for (int number : new int[] {-4, -3, -2, -1, 1, 2, 3, 4, MOST, LEAST}) {
            // Q is 1 for each corner, so that the shares are the weights.
            checks.due("a third of " + number, third(1 << 30, number).shown(new int[0], Rig.IN, 1, 0), Math.floorDiv(number, 3));
        }
        // The least triangle, of area 1: the place is in its corner 0.
        for (int w : new int[] {ONE, 1 << 30}) {
            Rig rig = Rig.showing();
            rig.cornersProgram(Rig.handOn(2));
            rig.put(0, 0, 0, w, w, 12345, w / 8, 0, 0, w, 0, 0, w / 8, 0, w, 0);
            rig.say(Kinds.ATTRIBUTE, 0, 0, 5, 4, 0, Kinds.ATTRIBUTE, 1, 4, 5, 1, 0, Kinds.DEPTH, 7, 1, Kinds.VIEW, 0, 0, 1, 1, 0, 16777215);
            checks.due("the number in the least triangle", rig.shown(new int[0], Rig.IN, 1, 0), 12345);
            checks.due("the depth in the least triangle", rig.machine.at(0, 0, 1), 16777215);
        }
    }

    /**
     * The only place lies on a top edge, where corner 1 has a share of 1 of some 2^29, and the number 2^31 - 1:
     * if all shares are halved once more, nothing of it is left.
     */
    private static int shownWithShares(int x0, int w0, int x1) {
        Rig rig = Rig.showing();
        rig.cornersProgram(Rig.handOn(2));
        int w1 = 1 << 30;
        // In a view 1024 wide and 16 high X is (x / w + 1) times 8192, and Y is (y / w + 1) times 128.
        rig.put(0, (8 * x0 - ONE) / (ONE / w0), -61440 / (ONE / w0), 0, w0, 0);
        rig.put(5, (8 * x1 - ONE) * (w1 / ONE), -61440 * (w1 / ONE), 0, w1, MOST);
        rig.put(10, 8 * x0 - ONE, 512 * 9 - ONE, 0, ONE, 0);
        rig.say(Kinds.VIEW, 0, 0, 1024, 16, 0, 0, Kinds.ATTRIBUTE, 0, 0, 5, 4, 0, Kinds.ATTRIBUTE, 1, 4, 5, 1, 0, Kinds.CLEAR, 1, -1, 0, 0);
        return rig.shown(new int[0], Rig.IN, 1, 0);
    }

    private static void shares(Checks checks) {
        checks.sentence("The SHARE of a corner is its weight times its Q, divided by 2^s, down, s being the least number, 0 or more, with which all "
            + "three are below 2^29.");
        // Weights 8191 and 1, Q 2^16 and 1: just below 2^29; with 8192 it is 2^29, and s is 1.
        checks.due("s is 0", shownWithShares(7, 1 << 14, 8199), MOST / (8191 * 65536 + 1));
        checks.due("s is 1", shownWithShares(7, 1 << 14, 8200), 0);
        // Weights 1023 and 8, Q 2^22 and 1: divided by 2^3 just below 2^29; with 1024 s is 4.
        checks.due("s is 3", shownWithShares(0, 256, 1031), MOST / (1023 * (1 << 19) + 1));
        checks.due("s is 4", shownWithShares(0, 256, 1032), 0);
    }

    private static void values(Checks checks) {
        checks.sentence("Value n is the sum of each corner's share times its value n, divided by the sum of the shares, down.");
        int[][] rows = {
            // the numbers of the corners 0 and 1, and what is half way between them
            {0, 1, 0}, {0, -1, -1}, {LEAST, MOST, -1}, {MOST, LEAST, -1}, {MOST, MOST, MOST}, {LEAST, LEAST, LEAST}, {LEAST, LEAST + 1, LEAST},
            {MOST, MOST - 1, MOST - 1}, {-3, 0, -2}};
        for (int[] row : rows) {
            Rig rig = Rig.showing();
            rig.cornersProgram(Rig.handOn(2));
            rig.put(0, -ONE, 0, 0, ONE, row[0], ONE, 0, 0, ONE, row[1], -ONE, ONE, 0, ONE, 0);
            rig.say(Kinds.ATTRIBUTE, 0, 0, 5, 4, 0, Kinds.ATTRIBUTE, 1, 4, 5, 1, 0);
            checks.due("half way between " + row[0] + " and " + row[1], rig.shown(new int[0], Rig.IN, 1, 0), row[2]);
        }
    }
}
