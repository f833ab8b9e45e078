import java.math.BigInteger;
import java.util.ArrayList;
import java.util.Arrays;
import java.util.List;

/** Terms, section 3: each sentence that names an edge, one after the other. */
final class EdgesOfCornersTest {
    private static final int ONE = Rig.ONE;
    private static final int LEAST = Integer.MIN_VALUE;
    private static final int MOST = Integer.MAX_VALUE;
    private static final int DEEP = (1 << 24) - 1;

    public static void main(String[] args) {
        Checks checks = new Checks("EdgesOfCornersTest");
        wordsThatArentThere(checks);
        withoutWrapping(checks);
        types(checks);
        missingParts(checks);
        indices(checks);
        asManyAsThereAre(checks);
        orders(checks);
        near(checks);
        eye(checks);
        nothingLeft(checks);
        newCorners(checks);
        allCuts(checks);
        laidFarOut(checks);
        roundedDown(checks);
        depths(checks);
        nearness(checks);
        areas(checks);
        checks.finish();
    }

    // ---- attributes and indices

    /**
     * The only place lies in corner 0, whose numbers are shown: attribute 1 of the vertex that index 0 names.
     * Attribute 0 of a vertex that isn't there is the view's middle, since it has three parts.
     */
    private static int[] attributeOf(int vertex, int from, int step, int parts, int type, int... words) {
        Rig rig = Rig.showing();
        rig.cornersProgram(Rig.handOn(2));
        rig.put(0, Arrays.copyOfRange(words, 0, words.length / 2));
        rig.put(4096 - words.length / 2, Arrays.copyOfRange(words, words.length / 2, words.length));
        rig.put(2000, vertex, 1, 2);
        rig.put(2103, 3 * ONE, 0, 0, 0, 3 * ONE, 0);
        rig.say(Kinds.ATTRIBUTE, 0, 2100, 3, 3, 0, Kinds.ATTRIBUTE, 1, from, step, parts, type);
        int[] shown = new int[4];
        for (int p = 0; p < 4; p++) {
            rig.placesProgram(Rig.show(Rig.IN, 1, p));
            rig.say(Kinds.DRAW_BY_INDEX, 0, 2000, 3, 0, 0);
            shown[p] = rig.machine.at(0, 0, 0);
        }
        return shown;
    }

    private static void due(Checks checks, String what, int[] got, int... due) {
        checks.due(what, Arrays.toString(got), Arrays.toString(due));
    }

    private static void wordsThatArentThere(Checks checks) {
        checks.sentence("MEMORY is that of section 1; a word that isn't there is 0.");
        // The first two and the last two words of memory.
        int[] words = {11, 12, 0x7FFF8001, 0xFF80017F};
        int[] fixed = {32639, 257, 32897, ONE};
        due(checks, "type 0 at 4094", attributeOf(0, 4094, 0, 4, 0, words), words[2], words[3], 0, 0);
        due(checks, "type 0 at 4095", attributeOf(0, 4095, 0, 4, 0, words), words[3], 0, 0, 0);
        due(checks, "type 0 at 4096", attributeOf(0, 4096, 0, 4, 0, words), 0, 0, 0, 0);
        due(checks, "type 0 at 2^20", attributeOf(0, 1 << 20, 0, 4, 0, words), 0, 0, 0, 0);
        due(checks, "type 1 at 4095", attributeOf(0, 4095, 0, 4, 1, words), fixed);
        due(checks, "type 1 at 4096", attributeOf(0, 4096, 0, 4, 1, words), 0, 0, 0, 0);
        due(checks, "type 2 at 4095", attributeOf(0, 4095, 0, 4, 2, words), 0x017F * 256, -0x80 * 256, 0, 0);
        due(checks, "type 2 at 4096", attributeOf(0, 4096, 0, 4, 2, words), 0, 0, 0, 0);
        due(checks, "type 3 at 4095", attributeOf(0, 4095, 0, 4, 3, words), 127 * ONE, ONE, -128 * ONE, -ONE);
        due(checks, "type 3 at 4096", attributeOf(0, 4096, 0, 4, 3, words), 0, 0, 0, 0);
        due(checks, "one ahead of memory", attributeOf(-1, 0, 1, 4, 0, words), 0, 11, 12, 0);
        due(checks, "three ahead of memory", attributeOf(-3, 0, 1, 4, 0, words), 0, 0, 0, 11);
        due(checks, "type 2 ahead of memory", attributeOf(-1, 0, 1, 4, 2, words), 0, 0, 11 * 256, 0);
        due(checks, "four ahead of memory", attributeOf(-4, 0, 1, 4, 0, words), 0, 0, 0, 0);
    }

    private static void withoutWrapping(Checks checks) {
        checks.sentence("p being the word from + i * step (reckoned without wrapping)");
        int[] words = {11, 12, 13, 14};
        due(checks, "vertex 0", attributeOf(0, 0, 1024, 2, 0, words), 11, 12, 0, ONE);
        due(checks, "vertex -1", attributeOf(-1, 1024, 1024, 2, 0, words), 11, 12, 0, ONE);
        due(checks, "vertex -1023", attributeOf(-1023, 1023 * 1024, 1024, 1, 0, words), 11, 0, 0, ONE);
        due(checks, "vertex 3 and 4094", attributeOf(3, 4094 - 3 * 1024, 1024, 2, 0, words), 13, 14, 0, ONE);
        for (int vertex : new int[] {1 << 22, -(1 << 22), 1 << 30, LEAST, 3 << 22}) {
            // Times 1024, and wrapped round to 32 bits, each of these would be 0.
            due(checks, "vertex " + vertex, attributeOf(vertex, 0, 1024, 2, 0, words), 0, 0, 0, ONE);
        }
        due(checks, "vertex most, step 1", attributeOf(MOST, 1, 1, 2, 0, words), 0, 0, 0, ONE);
        due(checks, "vertex least, step 0", attributeOf(LEAST, 1, 0, 1, 0, words), 12, 0, 0, ONE);
    }

    private static void types(Checks checks) {
        checks.sentence("of type 1, part k is byte k of word p (the lowest one first): the sum of 65536 times it and 127, divided by 255");
        for (int b : new int[] {0, 1, 2, 126, 127, 128, 129, 254, 255}) {
            int due = (65536 * b + 127) / 255;
            due(checks, "byte " + b, attributeOf(0, 0, 0, 4, 1, b * 0x01010101, 0), due, due, due, due);
        }
        checks.sentence("of type 2, part k is the half k mod 2 of the word p + k / 2 (the lower one first), as a number with sign, times 256");
        due(checks, "halves", attributeOf(0, 0, 0, 4, 2, 0x80007FFF, 0xFFFF0001, 0, 0), 32767 * 256, -32768 * 256, 256, -256);
        checks.sentence("of type 3, part k is byte k of word p, with sign, times 65536.");
        due(checks, "bytes", attributeOf(0, 0, 0, 4, 3, 0xFF80017F, 0), 127 * ONE, ONE, -128 * ONE, -ONE);
    }

    private static void missingParts(Checks checks) {
        checks.sentence("Parts that it has not are 0, 0, 0, 65536.");
        int word = 0x7F7F7F7F;
        int[] first = {word, (65536 * 127 + 127) / 255, 0x7F7F * 256, 127 * ONE};
        for (int type = 0; type < 4; type++) {
            for (int parts = 0; parts <= 4; parts++) {
                int[] due = {0, 0, 0, ONE};
                Arrays.fill(due, 0, parts, first[type]);
                due(checks, "type " + type + ", parts " + parts, attributeOf(0, 0, 0, parts, type, word, word, word, word, 0, 0, 0, 0), due);
            }
        }
    }

    /**
     * What is shown where vertex 0 lies, by indices of which the last three are a triangle of the vertices 0, 1 and 2,
     * and those ahead of them, if there are any, a triangle without area: 100 if the indices name these vertices.
     */
    private static int shownBy(int from, int many, int type, int base, int... words) {
        Rig rig = Rig.showing();
        rig.cornersProgram(Rig.handOn(2));
        rig.placesProgram(Rig.show(Rig.IN, 1, 0));
        rig.put(from, words);
        rig.put(2000, 0, 0, 0, 3 * ONE, 0, 0, 0, 3 * ONE, 0);
        rig.put(2500, 100, 101, 102);
        rig.say(Kinds.ATTRIBUTE, 0, 2000, 3, 3, 0, Kinds.ATTRIBUTE, 1, 2500, 1, 1, 0, Kinds.CLEAR, 1, -1, 0, 0,
            Kinds.FACES, 2, 0, Kinds.DRAW_BY_INDEX, 0, from, many, type, base);
        return rig.machine.at(0, 0, 0);
    }

    private static void indices(Checks checks) {
        checks.sentence("of type 0 index k is the word from + k; 1 the half k mod 2 of the word from + k / 2, 2 the byte k mod 4 of the word "
            + "from + k / 4 (the lower ones first), both without sign.");
        checks.due("words", shownBy(500, 3, 0, 0, 0, 1, 2), 100);
        checks.due("words with a base", shownBy(500, 3, 0, -7, 7, 8, 9), 100);
        checks.due("words below 0", shownBy(500, 3, 0, 9, -9, -8, -7), 100);
        checks.due("halves", shownBy(500, 3, 1, 0, 0x00010000, 2), 100);
        checks.due("halves up to 65535", shownBy(500, 3, 1, -65533, 0xFFFEFFFD, 0xFFFF), 100);
        checks.due("six halves", shownBy(500, 6, 1, 0, 0, 0, 0x00020001), 100);
        checks.due("bytes", shownBy(500, 3, 2, 0, 0x77020100), 100);
        checks.due("bytes up to 255", shownBy(500, 3, 2, -253, 0x00FFFEFD), 100);
        checks.due("six bytes", shownBy(500, 6, 2, 0, 0x00000000, 0x00000201), 100);
        checks.sentence("a word that isn't there is 0.");
        checks.due("the vertices 1, 2, and 0 for a word beyond memory", shownBy(4094, 3, 0, 0, 1, 2), 100);
        checks.due("a half beyond memory", shownBy(4095, 3, 1, 0, 0x00020001), 100);
        checks.due("bytes beyond memory: no area", shownBy(4095, 6, 2, 0, 0x01000000), -1);
        Rig rig = new Rig();
        rig.coverAll(1, 1);
        rig.placesProgram(Rig.stop());
        int[][] rows = {
            // type, from, words up to memory's end, base: the third index isn't there, or all are
            {0, 4094, 1, 2, 0}, {1, 4095, 1 | 2 << 16, 0, 0}, {0, 4095, 1, 0, 0}, {2, 4096, 0, 0, 0}, {0, 1 << 20, 0, 0, 0}};
        int[] due = {1, 1, 1, 1, 1};
        int[] shown = {1, 1, 0, 0, 0};
        int count = 0;
        for (int i = 0; i < rows.length; i++) {
            rig.put(4094, 0, 0);
            if (rows[i][1] < 4096) {
                rig.put(rows[i][1], rows[i][2]);
            }
            if (rows[i][1] == 4094) {
                rig.put(4095, rows[i][3]);
            }
            rig.say(Kinds.DRAW_BY_INDEX, 0, rows[i][1], 3, rows[i][0], rows[i][4]);
            count += shown[i];
            checks.due("gone over, row " + i, rig.machine.count(0), due[i] * (i + 1));
            checks.due("shown, row " + i + ": vertices 1, 2 and 0", rig.machine.count(2), count);
        }
        checks.sentence("base + index n (an int, wrapping, perhaps below 0)");
        checks.due("most and 1", shownBy(500, 3, 0, LEAST, LEAST, LEAST + 1, LEAST + 2), 100);
        checks.due("wrapping", shownBy(500, 3, 0, MOST, LEAST + 1, LEAST + 2, LEAST + 3), 100);
    }

    private static void asManyAsThereAre(Checks checks) {
        checks.sentence("as many as there are vertices for.");
        for (int mode = 0; mode < 3; mode++) {
            Rig rig = new Rig();
            rig.say(Kinds.CORNERS_PROGRAM, 0, 1, Kinds.PLACES_PROGRAM, 0, 1);
            int all = 0;
            for (int many : new int[] {0, 1, 2, 3, 4, 5, 6, 7, 4094, 4095, 4096}) {
                int due = mode == 0 ? many / 3 : many < 3 ? 0 : many - 2;
                rig.say(Kinds.DRAW, mode, 0, many);
                all += due;
                checks.due("mode " + mode + " of " + many, rig.machine.count(0), all);
                rig.say(Kinds.DRAW_BY_INDEX, mode, 0, many, 2, 0);
                all += due;
                checks.due("mode " + mode + " of " + many + " by index", rig.machine.count(0), all);
            }
        }
    }

    /** Which vertices make which triangle: each vertex is a bit, and a triangle's places show the bits' sum. */
    private static void orders(Checks checks) {
        checks.sentence("a LIST (mode 0) has triangles of vertices 3 t, 3 t + 1, 3 t + 2; a STRIP (1) of t, t + 1, t + 2 for even t, t + 1, "
            + "t, t + 2 for odd ones; a FAN (2) of 0, t + 1, t + 2");
        // Places of the vertices in turn; the sides of a mode's triangles tell the order of their corners.
        int[][] places = {{-1, -1}, {1, -1}, {-1, 1}, {1, 1}, {-1, 3}, {1, 3}};
        // The triangles' turning sense, front 1 or back 0: a list, a strip, a fan.
        int[][] fronts = {{1, 0}, {1, 1, 1, 1}, {1, 0, 1, 0}};
        for (int mode = 0; mode < 3; mode++) {
            for (int many = 3; many <= 6; many += mode == 0 ? 3 : 1) {
                Rig rig = new Rig();
                rig.coverAll(1, 1);
                rig.placesProgram(Rig.stop());
                for (int i = 0; i < 6; i++) {
                    rig.put(4 * i, places[i][0] * ONE, places[i][1] * ONE, 0, ONE);
                }
                rig.say(Kinds.ATTRIBUTE, 0, 0, 4, 4, 0, Kinds.FACES, 2, 0, Kinds.DRAW, mode, 0, many);
                int triangles = mode == 0 ? many / 3 : many - 2;
                int front = 0;
                for (int t = 0; t < triangles; t++) {
                    front += frontOf(mode, t, places);
                    checks.due("mode " + mode + ", triangle " + t, frontOf(mode, t, places), fronts[mode][t]);
                }
                checks.due("fronts of mode " + mode + " with " + many, rig.machine.count(2), front);
            }
        }
    }

    private static int frontOf(int mode, int t, int[][] places) {
        int[][] order = {{3 * t, 3 * t + 1, 3 * t + 2}, t % 2 == 0 ? new int[] {t, t + 1, t + 2} : new int[] {t + 1, t, t + 2}, {0, t + 1, t + 2}};
        int[] c = order[mode];
        int area = (places[c[1]][0] - places[c[0]][0]) * (places[c[2]][1] - places[c[0]][1])
            - (places[c[2]][0] - places[c[0]][0]) * (places[c[1]][1] - places[c[0]][1]);
        return area > 0 ? 1 : 0;
    }

    // ---- cutting

    /** How many triangles a triangle with these z and w is made into, and how many of them are not left out. */
    private static void cut(Checks checks, int made, int shown, int... zw) {
        Rig rig = new Rig();
        rig.coverAll(1, 1);
        rig.placesProgram(Rig.stop());
        for (int j = 0; j < 3; j++) {
            rig.put(4 * j, j == 1 ? 3 * ONE : -ONE, j == 2 ? 3 * ONE : -ONE, zw[2 * j], zw[2 * j + 1]);
        }
        rig.say(Kinds.ATTRIBUTE, 0, 0, 4, 4, 0, Kinds.DRAW, 0, 0, 3);
        String what = "z and w " + Arrays.toString(zw);
        checks.due(what + ": gone over", rig.machine.count(0), 1);
        checks.due(what + ": made", rig.machine.count(1), made);
        checks.due(what + ": not left out", rig.machine.count(2), shown);
    }

    private static void near(Checks checks) {
        checks.sentence("first by NEAR: z + w (without wrapping) .. what isn't below 0 is inside.");
        cut(checks, 1, 1, -ONE, ONE, -ONE, ONE, -ONE, ONE);
        cut(checks, 0, 0, -ONE - 1, ONE, -ONE - 1, ONE, -ONE - 1, ONE);
        cut(checks, 1, 1, -ONE, ONE, 0, ONE, 0, ONE);
        cut(checks, 2, 2, -3 * ONE, ONE, 0, ONE, 0, ONE);
        cut(checks, 2, 2, 0, ONE, -3 * ONE, ONE, 0, ONE);
        cut(checks, 2, 2, 0, ONE, 0, ONE, -3 * ONE, ONE);
        cut(checks, 1, 1, 0, ONE, -2 * ONE, ONE, -2 * ONE, ONE);
        cut(checks, 1, 1, MOST, MOST, 0, ONE, 0, ONE);
        cut(checks, 0, 0, LEAST, LEAST, LEAST, LEAST, LEAST, LEAST);
        cut(checks, 1, 1, MOST, ONE, MOST, ONE, MOST, ONE);
        // One corner on NEAR, the others outside: it stays, with two new ones at its very place.
        cut(checks, 1, 0, -ONE, ONE, -2 * ONE, ONE, -2 * ONE, ONE);
        cut(checks, 1, 0, -2 * ONE, ONE, -ONE, ONE, -2 * ONE, ONE);
        cut(checks, 1, 0, -2 * ONE, ONE, -2 * ONE, ONE, -ONE, ONE);
        // Two corners on NEAR, one outside: four corners at two places.
        cut(checks, 2, 0, -ONE, ONE, -ONE, ONE, -2 * ONE, ONE);
        cut(checks, 2, 0, -2 * ONE, ONE, -ONE, ONE, -ONE, ONE);
    }

    private static void eye(Checks checks) {
        checks.sentence("then by EYE: w - 256 (likewise); what isn't below 0 is inside.");
        cut(checks, 1, 1, 0, 256, 0, 256, 0, 256);
        cut(checks, 0, 0, 0, 255, 0, 255, 0, 255);
        // Both new corners are laid at the same sixteenths: one triangle of the two has no area.
        cut(checks, 2, 1, 0, 255, 0, ONE, 0, ONE);
        cut(checks, 2, 2, 0, ONE, 0, 0, 0, ONE);
        cut(checks, 1, 1, 0, 255, 0, 255, 0, ONE);
        cut(checks, 1, 0, 0, 255, 0, 255, 0, 256);
        cut(checks, 2, 0, 0, 256, 0, 256, 0, 255);
        // NEAR is 0 there, and w - 256 would wrap round to above 0.
        cut(checks, 0, 0, MOST, -MOST, MOST, -MOST, MOST, -MOST);
        // Cut by both, five corners are left of three.
        cut(checks, 3, 3, -ONE - ONE / 2, ONE, ONE, 0, 0, ONE);
    }

    private static void nothingLeft(Checks checks) {
        checks.sentence("Of none, one or two corners nothing is left.");
        cut(checks, 0, 0, -2 * ONE, ONE, -3 * ONE, ONE, LEAST, ONE);
        cut(checks, 0, 0, 0, -1, 0, -1, 0, -1);
        cut(checks, 0, 0, 100, 100, ONE, 0, MOST, -5);
        // By NEAR two corners are left with w below 256 and two new ones likewise: by EYE none.
        cut(checks, 0, 0, 0, 100, 0, 200, -300, 250);
        Rig rig = new Rig();
        rig.coverAll(2, 2);
        rig.placesProgram(Rig.stop());
        rig.put(0, 0, 0, 0, -ONE, ONE, 0, 0, -ONE, 0, ONE, 0, -ONE);
        rig.say(Kinds.ATTRIBUTE, 0, 0, 4, 4, 0, Kinds.DRAW, 0, 0, 3);
        checks.due("no place is covered", rig.machine.count(8), 0);
    }

    /** What is at the new corner between A and B: the sum of A's and of what is between, times f. */
    private static int between(int numberA, int numberB, long a, long b) {
        BigInteger f = BigInteger.valueOf(a).shiftLeft(16).divide(BigInteger.valueOf(a - b));
        BigInteger more = BigInteger.valueOf((long) numberB - numberA).multiply(f).shiftRight(16);
        return more.add(BigInteger.valueOf(numberA)).intValueExact();
    }

    /**
     * Corner A alone is inside; the triangle that is left is A and two new corners. The view is far larger than the
     * frame, and is laid so that the only place is at the new corner between A and B: a top edge, and a left one.
     */
    private static void newCorners(Checks checks) {
        checks.sentence("f is 65536 * a divided by a - b, and each of its numbers is the sum of that of A and of (that of B less that of A, "
            + "exactly) times f, divided by 65536");
        int[][] rows = {
            // z of A, z of B and C, the varying of A and of B
            {0, -3 * ONE, 1000, 4000}, {0, -3 * ONE, -1000, -4001}, {1, -ONE - 1, LEAST, MOST}, {5, -ONE - 7, 5, 6},
            {0, -ONE - 1, 77, LEAST}, {MOST, LEAST, MOST, LEAST}, {MOST, -ONE - 1, LEAST, MOST}, {MOST / 2, LEAST, 12345678, -87654321}};
        for (int[] row : rows) {
            Rig rig = new Rig();
            rig.coverAll(1, 1);
            rig.tellShowing();
            rig.cornersProgram(Rig.handOn(2));
            long a = (long) row[0] + ONE;
            long b = (long) row[1] + ONE;
            // A at the top left, B below it, C to the right of B: the new corners are left, and right of it.
            rig.put(0, 0, -ONE, row[0], ONE, row[2], 0, ONE, row[1], ONE, row[3], 2 * ONE, ONE, row[1], ONE, row[3]);
            rig.say(Kinds.ATTRIBUTE, 0, 0, 5, 4, 0, Kinds.ATTRIBUTE, 1, 4, 5, 1, 0, Kinds.VIEW, 0, 0, 1, 1, 0, 0);
            int y = between(-ONE, ONE, a, b);
            int due = between(row[2], row[3], a, b);
            int seen = atNewCorner(rig, y);
            checks.due("numbers " + Arrays.toString(row) + ", the new corner at " + y, seen, due);
        }
    }

    /** Moves the view so that the new corner's edge goes through the middle of the place: what is shown there. */
    private static int atNewCorner(Rig rig, int y) {
        // The new edge is the triangle's bottom; turned over by a y taken less than 0 it is its top.
        rig.cornersProgram(Rig.join(
            Rig.set(1, Rig.TO_OUT, 0, 13, Rig.source(Rig.IN, 0)),
            Rig.set(3, Rig.TO_OUT, 0, 2, Rig.source(Rig.UNIFORM, 0), Rig.source(Rig.IN, 0)),
            Rig.set(1, Rig.TO_OUT, 1, Rig.ALL, Rig.source(Rig.IN, 1)), Rig.stop()));
        rig.placesProgram(Rig.show(Rig.IN, 1, 0));
        rig.say(Kinds.UNIFORM, 0, 0, y, 0, 0, Kinds.CLEAR, 1, 0x5A5A5A5A, 0, 0, Kinds.DRAW, 0, 0, 3);
        return rig.machine.at(0, 0, 0);
    }

    /** All triangles of corners with z and w at their edges, drawn one over the other: the class and the model. */
    private static void allCuts(Checks checks) {
        checks.sentence("(it lies behind A if A comes first, ahead of it if B does; between the last corner and corner 0 last)");
        int[] zs = {LEAST, -ONE - 1, -ONE, -257, -256, 0, ONE, MOST};
        int[] ws = {LEAST, -1, 255, 256, 257, ONE, 2 * ONE, MOST};
        List<int[]> vertices = new ArrayList<>();
        for (int z : zs) {
            for (int w : ws) {
                int i = vertices.size();
                long scale = Math.max(256, Math.min(4 * ONE, (long) w));
                vertices.add(new int[] {(int) ((i * 7 % 11 - 5) * scale / 4), (int) ((i * 5 % 13 - 6) * scale / 5), z, w, 1000 * i - 30000});
            }
        }
        for (int step = 1; step < 60; step += 4) {
            Both both = new Both(checks, "triangles in steps of " + step);
            both.frame(6, 5, 8);
            List<Integer> words = new ArrayList<>(List.of(Kinds.STORE, 500, 192));
            for (int i = 0; i < 64; i++) {
                words.add(i % 64);
                words.add((i + step) % 64);
                words.add((i * step + 3) % 64);
            }
            for (int from = 0; from < 64; from += 32) {
                words.addAll(List.of(Kinds.STORE, 1000 + 5 * from, 160));
                vertices.subList(from, from + 32).forEach(v -> Arrays.stream(v).forEach(words::add));
            }
            List<Integer> corners = listOf(Rig.handOn(2));
            List<Integer> places = listOf(Rig.join(Rig.set(1, 0, true, Rig.target(Rig.TO_OUT, 0, 7), Rig.source(Rig.IN, 1)), Rig.stop()));
            words.addAll(List.of(Kinds.STORE, 100, corners.size()));
            words.addAll(corners);
            words.addAll(List.of(Kinds.STORE, 200, places.size()));
            words.addAll(places);
            words.addAll(List.of(Kinds.CORNERS_PROGRAM, 100, 3, Kinds.PLACES_PROGRAM, 200, 2, Kinds.VIEW, -3, 1, 9, 4, 0, (1 << 24) - 1,
                Kinds.ATTRIBUTE, 0, 1000, 5, 4, 0, Kinds.ATTRIBUTE, 1, 1004, 5, 1, 0, Kinds.LOGIC, 6, Kinds.DEPTH, 3, 1,
                Kinds.CLEAR, 2, 0, (1 << 24) - 1, 0));
            for (int t = 0; t < 64; t += 8) {
                words.addAll(List.of(Kinds.DRAW_BY_INDEX, 0, 500 + 3 * t, 24, 0, 0));
            }
            both.feedAll(words);
            both.run(20);
            for (int draws = 0; draws < 9; draws++) {
                both.run(1);
                both.compareState();
            }
        }
    }

    private static List<Integer> listOf(int[] words) {
        List<Integer> all = new ArrayList<>();
        for (int w : words) {
            all.add(w);
        }
        return all;
    }

    // ---- laying

    /**
     * A triangle with one corner at the one end, of number 0, and two corners at the other end, of number v; the only
     * place lies within it. What is shown there tells how far each end is from it: across, or down.
     */
    private static int shownBetween(boolean down, int[] view, int v, int one, int other, int w) {
        Rig rig = Rig.showing();
        rig.cornersProgram(Rig.handOn(2));
        int far = w == ONE ? 100 * ONE : MOST;
        if (down) {
            rig.put(0, 0, one, 0, w, 0, far, other, 0, w, v, -far, other, 0, w, v);
        } else {
            rig.put(0, one, 0, 0, w, 0, other, -far, 0, w, v, other, far, 0, w, v);
        }
        rig.say(Kinds.ATTRIBUTE, 0, 0, 5, 4, 0, Kinds.ATTRIBUTE, 1, 4, 5, 1, 0, Kinds.CLEAR, 1, 0x5A5A5A5A, 0, 0);
        rig.say(Kinds.VIEW, view[0], view[1], view[2], view[3], 0, 0);
        rig.placesProgram(Rig.show(Rig.IN, 1, 0));
        rig.say(Kinds.DRAW, 0, 0, 3);
        return rig.machine.at(0, 0, 0);
    }

    private static void laidFarOut(Checks checks) {
        checks.sentence("each, exact so far, cut to -16384 .. 16383 (they are sixteenths).");
        int[] view = {0, 0, 1024, 1024};
        int[] moved = {1023, 1023, 1024, 1024};
        int[] back = {-1023, -1023, 1024, 1024};
        int far = 100 * ONE;
        // Laid at -16384 and at 16383 if nothing cuts them: (x + ONE) / 8, and 16 times -1023 more.
        int least = -ONE - 128;
        int most = 16383 * 8 - ONE;
        for (int i = 0; i < 2; i++) {
            boolean down = i == 1;
            String what = down ? ", down" : ", across";
            // Of 32767 sixteenths between the ends the place's middle is 16384 + 8 from the first one.
            checks.due("far out" + what, shownBetween(down, view, 32767, -far, far, ONE), 16392);
            checks.due("as far as can be" + what, shownBetween(down, view, 32767, LEAST, MOST, 256), 16392);
            checks.due("the farthest view" + what, shownBetween(down, moved, 32767, -far, far, ONE), 16392);
            checks.due("the farthest view back" + what, shownBetween(down, back, 32767, -far, far, ONE), 16392);
            checks.due("just -16384" + what, shownBetween(down, back, 32767, least, far, ONE), 16392);
            checks.due("-16385 is cut" + what, shownBetween(down, back, 32767, least - 8, far, ONE), 16392);
            checks.due("-16383 is not" + what, shownBetween(down, back, 32766, least + 8, far, ONE), 16391);
            checks.due("just 16383" + what, shownBetween(down, view, 32767, -far, most, ONE), 16392);
            checks.due("16384 is cut" + what, shownBetween(down, view, 32767, -far, most + 8, ONE), 16392);
            checks.due("16382 is not" + what, shownBetween(down, view, 32766, -far, most - 8, ONE), 16392);
        }
    }

    private static void roundedDown(Checks checks) {
        checks.sentence("All divisions are rounded down.");
        // x * 65536 / w is -14336.5, in a view of 4 places: down it is laid at 24, otherwise it would be at 25.
        for (int less = 0; less < 2; less++) {
            Rig rig = new Rig();
            rig.coverAll(4, 4);
            rig.placesProgram(Rig.stop());
            int w = 2 * ONE;
            int x = -28673 + 2 * less;
            rig.put(0, x, -w, 0, w, 3 * w, -w, 0, w, x, 3 * w, 0, w);
            rig.say(Kinds.ATTRIBUTE, 0, 0, 4, 4, 0, Kinds.DRAW, 0, 0, 3);
            checks.due("left edge at x " + x + " of " + w, rig.machine.count(8), (less == 0 ? 3 : 2) * 4);
            rig.put(0, -w, x, 0, w, 3 * w, x, 0, w, -w, 3 * w, 0, w);
            rig.say(Kinds.DRAW, 0, 0, 3);
            checks.due("top edge at y " + x + " of " + w, rig.machine.count(8), (less == 0 ? 3 : 2) * 8);
        }
    }

    private static int depthOf(int z, int w, int near, int far) {
        Rig rig = new Rig();
        rig.coverAll(1, 1);
        rig.placesProgram(Rig.stop());
        // Corner 0 is the place's middle, with a top edge and a left one.
        rig.put(0, 0, 0, z, w, w, 0, z, w, 0, w, z, w);
        rig.say(Kinds.ATTRIBUTE, 0, 0, 4, 4, 0, Kinds.VIEW, 0, 0, 1, 1, near, far, Kinds.DEPTH, 7, 1, Kinds.CLEAR, 2, 0, 77, 0, Kinds.DRAW, 0, 0, 3);
        return rig.machine.at(0, 0, 1);
    }

    private static void depths(Checks checks) {
        checks.sentence("Its depth is near + ((z * 65536 / w + 65536) times (far - near), divided by 131072), cut likewise to 0 .. 2^24 - 1.");
        int deep = DEEP;
        int[][] rows = {
            // z, w, near, far, due
            {-ONE, ONE, 0, deep, 0}, {ONE, ONE, 0, deep, deep}, {ONE + 1, ONE, 0, deep, deep}, {2 * ONE, ONE, 0, deep, deep}, {0, ONE, 0, deep, 8388607},
            {-ONE, ONE, deep, 0, deep}, {ONE, ONE, deep, 0, 0}, {ONE + 1, ONE, deep, 0, 0}, {3 * ONE, ONE, deep, 0, 0}, {0, ONE, deep, 0, 8388607},
            {MOST, 256, 0, deep, deep}, {MOST, 256, deep, 0, 0}, {MOST, 256, 0, 1, 4194304}, {MOST, 256, 1, 0, 0}, {MOST, MOST, 0, deep, deep},
            {-256, 256, 5, 9, 5}, {-255, 256, 0, deep, 32767}, {-ONE + 1, ONE, 0, deep, 127}, {ONE, ONE, 7, 7, 7}, {1, MOST, 0, 2, 1}, {-1, MOST, 0, 2, 0},
            {0, ONE, 0, 1, 0}, {0, ONE, 1, 0, 0}, {0, ONE, 0, 3, 1}, {0, ONE, 3, 0, 1}};
        for (int[] row : rows) {
            checks.due("depth of " + Arrays.toString(row), depthOf(row[0], row[1], row[2], row[3]), row[4]);
        }
        beforeNear(checks);
    }

    /**
     * Behind the cut by EYE, z + w of a new corner may be -1, since both are rounded down: its depth is before near,
     * and still exact. Here z is -257 and w 256, and (z * 65536 / w + 65536) is -256.
     */
    private static void beforeNear(Checks checks) {
        int wA = 327638;
        int wB = -20250;
        long f = 65536L * (wA - 256) / (wA - wB);
        // Corner A is below the place's middle; the new corners are that middle, and to the right of it.
        int yA = wA;
        int yB = (int) (yA - 65536L * yA / f);
        int[][] rows = {{100000, DEEP, 67427}, {0, DEEP, 0}, {DEEP, 0, DEEP}, {1000, 0, 1001}, {0, 1000, 0}};
        for (int[] row : rows) {
            Rig rig = new Rig();
            rig.coverAll(1, 1);
            rig.placesProgram(Rig.stop());
            rig.put(0, 0, yA, 1 - wA, wA, 0, yB, -wB, wB, 5000, yB, -wB, wB);
            rig.say(Kinds.ATTRIBUTE, 0, 0, 4, 4, 0, Kinds.VIEW, 0, 0, 1, 1, row[0], row[1], Kinds.CLEAR, 2, 0, 77, 0, Kinds.DEPTH, 7, 1);
            rig.draw();
            checks.due("before near, " + Arrays.toString(row), rig.machine.at(0, 0, 1), row[2]);
        }
    }

    private static void nearness(Checks checks) {
        checks.sentence("Its Q is 2^30 divided by w, at least 1.");
        // Half way between corner 0 with w and corner 1 with 1 << 28 and Q 4: the share of corner 1 of 1000.
        int[][] rows = {{1 << 30, 1}, {(1 << 30) + 1, 1}, {MOST, 1}, {(1 << 30) - 1, 1}, {1 << 29, 2}, {(1 << 29) + 1, 1}, {1 << 28, 4}, {256, 1 << 22}};
        for (int[] row : rows) {
            Rig rig = Rig.showing();
            rig.cornersProgram(Rig.handOn(2));
            // The place's middle is half way between the corners 0 and 1; corner 2 is below corner 0.
            rig.put(0, -row[0], 0, 0, row[0], 0, 1 << 28, 0, 0, 1 << 28, 1000, -(1 << 28), 1 << 30, 0, 1 << 28, 0);
            rig.say(Kinds.ATTRIBUTE, 0, 0, 5, 4, 0, Kinds.ATTRIBUTE, 1, 4, 5, 1, 0);
            checks.due("Q of " + row[0], rig.shown(new int[0], Rig.IN, 1, 0), 4000 / (row[1] + 4));
        }
    }

    // ---- sides

    /** Triangles by their sixteenths in a view of 16 places: an area of 0, 1 and -1, and the greatest one. */
    private static void areas(Checks checks) {
        checks.sentence("It shows its FRONT if that is above 0, its BACK if below (the other way round if the clock turns front). It is LEFT OUT "
            + "if it is 0, or that side is (FACES' out: 0 none, 1 the front, 2 the back, 3 both).");
        int[][] triangles = {{8, 8, 9, 8, 8, 9}, {8, 8, 8, 9, 9, 8}, {8, 8, 9, 9, 10, 10}, {8, 8, 8, 8, 8, 8}, {8, 8, 9, 8, 9, 8},
            {-16384, -16384, 16383, -16384, -16384, 16383}, {-16384, -16384, -16384, 16383, 16383, -16384}};
        int[] signs = {1, -1, 0, 0, 0, 1, -1};
        for (int i = 0; i < triangles.length; i++) {
            Rig rig = new Rig();
            rig.coverAll(16, 16);
            rig.placesProgram(Rig.stop());
            for (int j = 0; j < 3; j++) {
                rig.put(4 * j, 512 * triangles[i][2 * j] - ONE, 512 * triangles[i][2 * j + 1] - ONE, 0, ONE);
            }
            rig.say(Kinds.ATTRIBUTE, 0, 0, 4, 4, 0);
            int shown = 0;
            for (int out = 0; out < 4; out++) {
                for (int clock = 0; clock < 2; clock++) {
                    rig.say(Kinds.FACES, out, clock, Kinds.DRAW, 0, 0, 3);
                    boolean front = signs[i] > 0 == (clock == 0);
                    boolean stays = signs[i] != 0 && (out & (front ? 1 : 2)) == 0;
                    shown += stays ? 1 : 0;
                    checks.due(Arrays.toString(triangles[i]) + ", out " + out + ", clock " + clock, rig.machine.count(2), shown);
                }
            }
            checks.due("all were made", rig.machine.count(1), 8);
        }
    }
}
