import java.util.Arrays;

/** Terms, section 6: each sentence that names an edge, one after the other. */
final class EdgesOfPlacesTest {
    private static final int ONE = Rig.ONE;
    private static final int LEAST = Integer.MIN_VALUE;
    private static final int MOST = Integer.MAX_VALUE;
    private static final int DEPTH = 8388607;
    private static final int DEEP = (1 << 24) - 1;

    public static void main(String[] args) {
        Checks checks = new Checks("EdgesOfPlacesTest");
        colourBelowZero(checks);
        scissors(checks);
        depthTests(checks);
        depthsAtTheEnds(checks);
        depthOff(checks);
        stencilTests(checks);
        stencilDeeds(checks);
        writeMask(checks);
        stencilOff(checks);
        cutColours(checks);
        answers(checks);
        masks(checks);
        factors(checks);
        factorFourteen(checks);
        equations(checks);
        nearest(checks);
        logic(checks);
        clearing(checks);
        checks.finish();
    }

    /** A frame of one place; draw() draws it with the colour of uniform 0 and the depth 2^23 - 1. */
    private static Rig ready() {
        Rig rig = new Rig();
        rig.coverAll(1, 1);
        rig.colourOfUniform(0);
        return rig;
    }

    private static void tell(Rig rig, int colour) {
        rig.say(Kinds.UNIFORM, 0, 257 * (colour & 255), 257 * (colour >>> 8 & 255), 257 * (colour >>> 16 & 255), 257 * (colour >>> 24));
    }

    private static int colour(int r, int g, int b, int a) {
        return r | g << 8 | b << 16 | a << 24;
    }

    private static void colourBelowZero(Checks checks) {
        checks.sentence("as a number a * 2^24 + b * 2^16 + g * 2^8 + r, which may be below 0");
        for (int colour : new int[] {0, 1, -1, LEAST, MOST, colour(1, 2, 3, 4), colour(255, 0, 0, 128), colour(0, 0, 255, 127)}) {
            Rig rig = ready();
            tell(rig, colour);
            rig.draw();
            checks.due("drawn", rig.machine.at(0, 0, 0), colour);
            rig.say(Kinds.CLEAR, 1, ~colour, 0, 0);
            checks.due("cleared", rig.machine.at(0, 0, 0), ~colour);
        }
    }

    // ---- scissors

    private static void scissors(Checks checks) {
        checks.sentence("The SCISSORS are a rectangle x0 <= x < x1, y0 <= y < y1 (as told, or all places). A place is OPEN if it is in the frame "
            + "and in them.");
        int[][] rows = {
            {0, 0, 3, 3, 0x1FF}, {0, 0, 1, 1, 0x001}, {2, 2, 3, 3, 0x100}, {1, 0, 2, 3, 0x092}, {0, 1, 3, 2, 0x038}, {-9, -9, 99, 99, 0x1FF},
            {LEAST, LEAST, MOST, MOST, 0x1FF}, {LEAST, LEAST, 1, 1, 0x001}, {2, 2, MOST, MOST, 0x100}, {1, 1, 1, 3, 0}, {0, 1, 3, 1, 0}, {0, 2, 3, 1, 0},
            {3, 0, 9, 3, 0}, {0, 3, 3, 9, 0}, {-5, 0, 0, 3, 0}, {0, -5, 3, 0, 0}, {0, 0, 0, 0, 0}, {MOST, 0, MOST, 3, 0}, {0, MOST, 3, LEAST, 0}};
        for (int[] row : rows) {
            open(checks, row);
        }
        checks.sentence("SCISSORS: all places are open if x1 is below x0");
        for (int[] row : new int[][] {{0, 0, -1, 0, 0x1FF}, {3, 3, 2, 9, 0x1FF}, {1, 9, 0, 9, 0x1FF}, {MOST, 5, LEAST, 1, 0x1FF}, {0, 0, LEAST, 0, 0x1FF}}) {
            open(checks, row);
        }
    }

    /** Bit i of the last number: place i of 3 by 3 is open, for a draw and for a CLEAR. */
    private static void open(Checks checks, int[] row) {
        Rig rig = new Rig();
        rig.coverAll(3, 3);
        rig.say(Kinds.UNIFORM, 0, ONE, 0, 0, 0);
        rig.colourOfUniform(0);
        rig.say(Kinds.SCISSORS, row[0], row[1], row[2], row[3], Kinds.DRAW, 0, 0, 3);
        String what = "scissors " + Arrays.toString(row);
        for (int i = 0; i < 9; i++) {
            checks.due(what + ", place " + i, rig.machine.at(i % 3, i / 3, 0), (row[4] >> i & 1) * 255);
        }
        checks.due(what + ": not open", rig.machine.count(3), 9 - Integer.bitCount(row[4]));
        checks.due(what + ": drawn", rig.machine.count(6), Integer.bitCount(row[4]));
        rig.say(Kinds.CLEAR, 7, 7, 8, 9);
        for (int i = 0; i < 9; i++) {
            boolean is = (row[4] >> i & 1) == 1;
            checks.due(what + ", colour " + i, rig.machine.at(i % 3, i / 3, 0), is ? 7 : 0);
            checks.due(what + ", depth " + i, rig.machine.at(i % 3, i / 3, 1), is ? 8 : 0);
            checks.due(what + ", stencil " + i, rig.machine.at(i % 3, i / 3, 2), is ? 9 : 0);
        }
    }

    // ---- depths

    /** For a below b, a as great as b, and a above b: which tests hold. */
    private static final int[][] HOLDS = {{0, 0, 0}, {1, 0, 0}, {0, 1, 0}, {1, 1, 0}, {0, 0, 1}, {1, 0, 1}, {0, 1, 1}, {1, 1, 1}};

    private static void depthTests(Checks checks) {
        checks.sentence("TESTS of a against b: 0 never, 1 a below b, 2 a is b, 3 a not above b, 4 a above b, 5 a is not b, 6 a not below b, 7 always.");
        int[] place = {DEPTH + 1, DEPTH, DEPTH - 1};
        for (int test = 0; test < 8; test++) {
            for (int i = 0; i < 3; i++) {
                for (int written = 0; written < 2; written++) {
                    Rig rig = ready();
                    tell(rig, 99);
                    rig.say(Kinds.CLEAR, 2, 0, place[i], 0, Kinds.DEPTH, test, written, Kinds.DRAW, 0, 0, 3);
                    boolean holds = HOLDS[test][i] == 1;
                    String what = "test " + test + " against " + place[i] + ", written " + written;
                    checks.due(what + ": colour", rig.machine.at(0, 0, 0), holds ? 99 : 0);
                    checks.due(what + ": depth", rig.machine.at(0, 0, 1), holds && written == 1 ? DEPTH : place[i]);
                    checks.due(what + ": answer 2", rig.machine.count(5), holds ? 0 : 1);
                    checks.due(what + ": answer 3", rig.machine.count(6), holds ? 1 : 0);
                }
            }
        }
    }

    private static void depthsAtTheEnds(Checks checks) {
        checks.sentence("a DEPTH 0 .. 2^24 - 1");
        // A new depth of 0 or of 2^24 - 1, against the same, by what is below, alike and above.
        for (int far = 0; far < 2; far++) {
            for (int test = 0; test < 8; test++) {
                for (int there : new int[] {0, DEEP}) {
                    Rig rig = ready();
                    int depth = far * DEEP;
                    rig.say(Kinds.VIEW, 0, 0, 1, 1, depth, depth, Kinds.CLEAR, 2, 0, there, 0, Kinds.DEPTH, test, 1, Kinds.DRAW, 0, 0, 3);
                    int i = depth < there ? 0 : depth == there ? 1 : 2;
                    checks.due("depth " + depth + " by test " + test + " against " + there, rig.machine.count(6), HOLDS[test][i]);
                    checks.due("what is there then", rig.machine.at(0, 0, 1), HOLDS[test][i] == 1 ? depth : there);
                }
            }
        }
    }

    private static void depthOff(Checks checks) {
        checks.sentence("The DEPTH's rule: a test of the new depth against the place's, and whether the new one is WRITTEN. Off: it holds, and nothing "
            + "is written.");
        for (int written = 0; written < 2; written++) {
            for (int there : new int[] {0, DEPTH, DEEP}) {
                Rig rig = ready();
                tell(rig, 99);
                rig.say(Kinds.CLEAR, 2, 0, there, 0, Kinds.DEPTH, 0, 1, Kinds.DEPTH, -1, written, Kinds.DRAW, 0, 0, 3);
                checks.due("colour", rig.machine.at(0, 0, 0), 99);
                checks.due("the depth stays " + there, rig.machine.at(0, 0, 1), there);
            }
        }
    }

    // ---- stencils

    private static void stencilTests(Checks checks) {
        checks.sentence("It tests the bits that the value has in the mask against those that the place's stencil has in it.");
        int[][] rows = {
            // value, mask, the place's stencil: below, alike, above
            {0, 255, 255}, {255, 255, 255}, {255, 255, 0}, {0, 255, 0}, {0xF1, 0x0F, 0x02}, {0x1F, 0xF0, 0x1E}, {0x80, 0x80, 0x7F}, {255, 0, 0}, {0, 0, 255},
            {0x7F, 255, 0x80}};
        int[] sign = {0, 1, 2, 1, 0, 1, 2, 1, 1, 0};
        for (int i = 0; i < rows.length; i++) {
            for (int test = 0; test < 8; test++) {
                Rig rig = ready();
                rig.say(Kinds.CLEAR, 4, 0, 0, rows[i][2], Kinds.STENCIL, 0, test, rows[i][0], rows[i][1], 0, 0, 0, 0, Kinds.DRAW, 0, 0, 3);
                checks.due("test " + test + " of " + Arrays.toString(rows[i]), rig.machine.count(6), HOLDS[test][sign[i]]);
                checks.due("answer 1", rig.machine.count(4), 1 - HOLDS[test][sign[i]]);
            }
        }
    }

    private static void stencilDeeds(Checks checks) {
        checks.sentence("A deed makes of the stencil: 0 it stays, 1 0, 2 the value, 3 one more, at most 255, 4 one less, at least 0, 5 its bits "
            + "turned, 6 one more, 0 behind 255, 7 one less, 255 behind 0");
        int[] there = {0, 1, 127, 128, 254, 255};
        int[][] due = {
            there, {0, 0, 0, 0, 0, 0}, {77, 77, 77, 77, 77, 77}, {1, 2, 128, 129, 255, 255}, {0, 0, 126, 127, 253, 254}, {255, 254, 128, 127, 1, 0},
            {1, 2, 128, 129, 255, 0}, {255, 0, 126, 127, 253, 254}};
        String[] when = {"it fails", "the depth's fails", "both hold"};
        for (int deed = 0; deed < 8; deed++) {
            for (int i = 0; i < there.length; i++) {
                for (int c = 0; c < 3; c++) {
                    Rig rig = ready();
                    int[] rule = {Kinds.STENCIL, 0, c == 0 ? 0 : 7, 77, 255, 255, 0, 0, 0};
                    rule[6 + c] = deed;
                    rig.say(Kinds.CLEAR, 4, 0, 0, there[i]);
                    rig.say(Rig.join(rule, new int[] {Kinds.DEPTH, c == 1 ? 0 : 7, 0, Kinds.DRAW, 0, 0, 3}));
                    checks.due("deed " + deed + " of " + there[i] + " when " + when[c], rig.machine.at(0, 0, 2), due[deed][i]);
                    checks.due("its answer", rig.machine.count(4 + c), 1);
                }
            }
        }
    }

    private static void writeMask(Checks checks) {
        checks.sentence("of the result the bits of the write mask are written.");
        int[] made = {0xA5, 0, 0x3C, 0xA6, 0xA4, 0x5A, 0xA6, 0xA4};
        for (int deed = 0; deed < 8; deed++) {
            for (int mask : new int[] {0, 1, 0x80, 0x0F, 0xF0, 255}) {
                Rig rig = ready();
                rig.say(Kinds.CLEAR, 4, 0, 0, 0xA5, Kinds.STENCIL, 0, 7, 0x3C, 0, mask, 0, 0, deed, Kinds.DRAW, 0, 0, 3);
                checks.due("deed " + deed + ", mask " + mask, rig.machine.at(0, 0, 2), 0xA5 & ~mask | made[deed] & mask);
            }
        }
        // One more than 255, 0 behind it: the bits of 0; at the mask's edge nothing is carried over.
        Rig rig = ready();
        rig.say(Kinds.CLEAR, 4, 0, 0, 0x0F, Kinds.STENCIL, 0, 7, 0, 0, 0x0F, 0, 0, 6, Kinds.DRAW, 0, 0, 3);
        checks.due("0x0F and one more, the lower four bits", rig.machine.at(0, 0, 2), 0);
    }

    private static void stencilOff(Checks checks) {
        checks.sentence("Off: it holds, and nothing is written.");
        for (int deed = 0; deed < 8; deed++) {
            Rig rig = ready();
            rig.say(Kinds.CLEAR, 4, 0, 0, 0x11, Kinds.STENCIL, 0, -1, 0x77, 255, 255, deed, deed, deed, Kinds.DRAW, 0, 0, 3);
            checks.due("deed " + deed, rig.machine.at(0, 0, 2), 0x11);
            rig.say(Kinds.DEPTH, 0, 1, Kinds.DRAW, 0, 0, 3);
            checks.due("deed " + deed + ", the depth's fails", rig.machine.at(0, 0, 2), 0x11);
            checks.due("one was drawn", rig.machine.count(6), 1);
            checks.due("none failed by the stencil", rig.machine.count(4), 0);
        }
        checks.sentence("The STENCIL's rule for each SIDE (0 front, 1 back)");
        for (int side = 0; side < 2; side++) {
            for (int off = 0; off < 2; off++) {
                Rig rig = ready();
                rig.say(Kinds.STENCIL, off, -1, 0, 0, 255, 1, 1, 1, Kinds.STENCIL, 1 - off, 0, 0, 255, 255, 5, 5, 5, Kinds.FACES, 0, side);
                rig.draw();
                checks.due("side " + side + ", off is " + off, rig.machine.at(0, 0, 2), side == off ? 0 : 255);
                checks.due("its answer", rig.machine.count(side == off ? 6 : 4), 1);
            }
        }
    }

    // ---- what is drawn

    private static void cutColours(Checks checks) {
        checks.sentence("each is cut to 0 .. 65536; its byte s is (255 times it + 32768) / 65536, rounded down.");
        int[][] rows = {
            {LEAST, 0}, {-ONE, 0}, {-1, 0}, {0, 0}, {1, 0}, {128, 0}, {129, 1}, {385, 1}, {386, 2}, {ONE / 2 - 1, 127}, {ONE / 2, 128}, {33025, 128}, {33026, 129}, {ONE - 129, 254},
            {ONE - 128, 255}, {ONE - 1, 255}, {ONE, 255}, {ONE + 1, 255}, {2 * ONE, 255}, {MOST, 255}};
        for (int[] row : rows) {
            for (int k = 0; k < 4; k++) {
                Rig rig = ready();
                int[] uniform = {Kinds.UNIFORM, 0, 0, 0, 0, 0};
                uniform[2 + k] = row[0];
                rig.say(uniform);
                rig.draw();
                checks.due("channel " + k + " of " + row[0], rig.machine.at(0, 0, 0), row[1] << 8 * k);
            }
        }
    }

    /** What each answer leaves: not open goes before the stencil, the stencil before the depth. */
    private static void answers(Checks checks) {
        checks.sentence("If the place is not open, nothing is done (0). Then the stencil's test: if it fails, its deed (1). Then the depth's: if it "
            + "fails, the deed for that (2). Otherwise the deed for both, the depth is written (if it is to be), and the colour (3)");
        for (int bits = 0; bits < 8; bits++) {
            boolean open = (bits & 1) != 0;
            boolean stencil = (bits & 2) != 0;
            boolean depth = (bits & 4) != 0;
            Rig rig = ready();
            tell(rig, 0x55);
            rig.say(Kinds.CLEAR, 7, 0x11, 1000, 0x40);
            rig.say(Kinds.SCISSORS, 0, 0, open ? 1 : 0, 1, Kinds.STENCIL, 0, stencil ? 7 : 0, 9, 255, 255, 3, 4, 2, Kinds.DEPTH, depth ? 7 : 0, 1);
            rig.draw();
            int answer = !open ? 0 : !stencil ? 1 : !depth ? 2 : 3;
            for (int i = 0; i < 4; i++) {
                checks.due("answer " + i + " of case " + bits, rig.machine.count(3 + i), i == answer ? 1 : 0);
            }
            int[] stencils = {0x40, 0x41, 0x3F, 9};
            checks.due("colour of case " + bits, rig.machine.at(0, 0, 0), answer == 3 ? 0x55 : 0x11);
            checks.due("depth of case " + bits, rig.machine.at(0, 0, 1), answer == 3 ? DEPTH : 1000);
            checks.due("stencil of case " + bits, rig.machine.at(0, 0, 2), stencils[answer]);
        }
    }

    private static void masks(Checks checks) {
        checks.sentence("those that the colour MASK has (1 r, 2 g, 4 b, 8 a) are written.");
        int s = 0x04030201;
        int d = 0xF4F3F2F1;
        for (int mask = 0; mask < 16; mask++) {
            int bits = (mask & 1) * 0xFF | (mask >> 1 & 1) * 0xFF00 | (mask >> 2 & 1) * 0xFF0000 | (mask >> 3 & 1) * 0xFF000000;
            Rig rig = ready();
            tell(rig, s);
            rig.say(Kinds.CLEAR, 1, d, 0, 0, Kinds.MASK, mask);
            rig.draw();
            checks.due("mask " + mask, rig.machine.at(0, 0, 0), d & ~bits | s & bits);
            checks.due("the answer is 3 with mask " + mask, rig.machine.count(6), 1);
        }
    }

    // ---- blending

    private static int blended(int s, int d, int constant, int... blend) {
        Rig rig = ready();
        tell(rig, s);
        rig.say(Kinds.CLEAR, 1, d, 0, 0, Kinds.CONSTANT, constant);
        rig.say(Rig.join(new int[] {Kinds.BLEND}, blend, new int[] {Kinds.DRAW, 0, 0, 3}));
        return rig.machine.at(0, 0, 0);
    }

    private static int channel(int colour, int k) {
        return colour >>> 8 * k & 255;
    }

    private static void factors(Checks checks) {
        checks.sentence("a FACTOR of a channel is: 0 0, 1 255, 2 s, 3 255 - s, 4 d, 5 255 - d, 6 sa, 7 255 - sa, 8 da, 9 255 - da, 10 c, 11 255 - c, "
            + "12 ca, 13 255 - ca");
        int[][] colours = {
            {colour(0, 255, 128, 255), colour(255, 0, 127, 0), colour(1, 254, 255, 0)}, {colour(255, 1, 254, 0), colour(3, 255, 0, 255), colour(0, 128, 7, 255)},
            {colour(10, 20, 30, 40), colour(200, 100, 50, 25), colour(99, 88, 77, 66)}};
        for (int[] row : colours) {
            int s = row[0];
            int d = row[1];
            int c = row[2];
            for (int number = 0; number < 14; number++) {
                int ofS = 0;
                int ofD = 0;
                for (int k = 0; k < 4; k++) {
                    int[] even = {0, channel(s, k), channel(d, k), channel(s, 3), channel(d, 3), channel(c, k), channel(c, 3)};
                    int factor = number % 2 == 0 ? even[number / 2] : 255 - even[number / 2];
                    ofS |= (int) Math.round(channel(s, k) * factor / 255.0) << 8 * k;
                    ofD |= (int) Math.round(channel(d, k) * factor / 255.0) << 8 * k;
                }
                checks.due("factor " + number + " of s " + s, blended(s, d, c, number, 0, number, 0, 0, 0), ofS);
                checks.due("factor " + number + " of d " + d, blended(s, d, c, 0, number, 0, number, 0, 0), ofD);
            }
        }
    }

    private static void factorFourteen(Checks checks) {
        checks.sentence("14 the lesser one of sa and 255 - da (for channel a: 255).");
        int[][] rows = {{100, 155, 100}, {100, 156, 99}, {100, 154, 100}, {0, 0, 0}, {255, 0, 255}, {255, 255, 0}, {0, 255, 0}, {1, 1, 1}, {254, 1, 254}};
        for (int[] row : rows) {
            int s = colour(255, 255, 255, row[0]);
            int d = colour(0, 0, 0, row[1]);
            checks.due("sa " + row[0] + ", da " + row[1], blended(s, d, 0, 14, 0, 14, 0, 0, 0), colour(row[2], row[2], row[2], row[0]));
            int all = colour(255, 255, 255, row[1]);
            int bare = colour(0, 0, 0, row[0]);
            checks.due("of d, sa " + row[0] + ", da " + row[1], blended(bare, all, 0, 0, 14, 0, 14, 0, 0), colour(row[2], row[2], row[2], row[1]));
        }
    }

    private static void equations(Checks checks) {
        checks.sentence("0 S + D, 1 S - D, 2 D - S; divided by 255, to the nearest (no two are nearest), cut to 0 .. 255; 3 the lesser one of s and d, 4 "
            + "the greater one.");
        int s = colour(0, 255, 200, 100);
        int d = colour(0, 255, 100, 200);
        int[] due = {colour(0, 255, 255, 255), colour(0, 0, 100, 0), colour(0, 0, 0, 100), colour(0, 255, 100, 100), colour(0, 255, 200, 200)};
        for (int rgb = 0; rgb < 5; rgb++) {
            for (int a = 0; a < 5; a++) {
                int want = due[rgb] & 0xFFFFFF | due[a] & 0xFF000000;
                checks.due("equations " + rgb + " and " + a, blended(s, d, 0, 1, 1, 1, 1, rgb, a), want);
            }
        }
        int[][] pairs = {{128, 127, 255, 1, 0}, {128, 128, 255, 0, 0}, {127, 128, 255, 0, 1}, {255, 0, 255, 255, 0}, {0, 255, 255, 0, 255}, {1, 255, 255, 0, 254}};
        for (int[] pair : pairs) {
            for (int e = 0; e < 3; e++) {
                int got = blended(colour(pair[0], 0, 0, pair[0]), colour(pair[1], 0, 0, pair[1]), 0, 1, 1, 1, 1, e, e);
                checks.due(pair[0] + " and " + pair[1] + " by " + e, got, colour(pair[2 + e], 0, 0, pair[2 + e]));
            }
        }
        checks.sentence("BLEND: none if its first equation is -1");
        for (int a = 0; a < 5; a++) {
            checks.due("second equation " + a, blended(s, d, 0, 0, 0, 0, 0, -1, a), s);
        }
    }

    private static void nearest(Checks checks) {
        checks.sentence("divided by 255, to the nearest (no two are nearest)");
        // s times the factor sa, for products on both sides of half of 255.
        for (int a : new int[] {1, 127, 128, 254, 255}) {
            for (int r : new int[] {0, 1, 2, 3, 127, 128, 253, 254, 255}) {
                int got = blended(colour(r, r, r, a), 0, 0, 6, 0, 0, 0, 0, 0);
                int due = (r * a * 2 + 255) / 510;
                checks.due(r + " times " + a, got, colour(due, due, due, 0));
            }
        }
        // S - D with factors: 200 * 128 - 100 * 255 is 100, which is nearer to 0; with 1 more of s it is 228.
        checks.due("100 of 255", blended(colour(200, 0, 0, 128), colour(100, 0, 0, 0), 0, 6, 1, 0, 0, 1, 0), 0);
        checks.due("228 of 255", blended(colour(201, 0, 0, 128), colour(100, 0, 0, 0), 0, 6, 1, 0, 0, 1, 0), 1);
    }

    private static void logic(Checks checks) {
        checks.sentence("LOGIC: a number 0 .. 15: each bit of a channel is the bit of that number whose place is 2 times the bit of s + the bit of d. It "
            + "goes before blending.");
        int s = 0xFF00AACC;
        int d = 0xFF00CCAA;
        for (int number = 0; number < 16; number++) {
            int due = 0;
            for (int bit = 0; bit < 32; bit++) {
                due |= (number >> 2 * (s >>> bit & 1) + (d >>> bit & 1) & 1) << bit;
            }
            Rig rig = ready();
            tell(rig, s);
            rig.say(Kinds.CLEAR, 1, d, 0, 0, Kinds.LOGIC, number, Kinds.BLEND, 1, 1, 1, 1, 1, 1, Kinds.DRAW, 0, 0, 3);
            checks.due("logic " + number, rig.machine.at(0, 0, 0), due);
        }
        checks.sentence("LOGIC, DEPTH, STENCIL: none with -1");
        Rig rig = ready();
        tell(rig, s);
        rig.say(Kinds.CLEAR, 1, d, 0, 0, Kinds.LOGIC, 0, Kinds.LOGIC, -1, Kinds.DRAW, 0, 0, 3);
        checks.due("logic -1", rig.machine.at(0, 0, 0), s);
        rig.say(Kinds.BLEND, 0, 1, 0, 1, 0, 0, Kinds.CLEAR, 1, d, 0, 0, Kinds.DRAW, 0, 0, 3);
        checks.due("logic -1, and blending", rig.machine.at(0, 0, 0), d);
    }

    // ---- clearing

    private static void cleared(Checks checks, String what, int[] before, int colour, int depth, int stencil, int asked) {
        Rig rig = new Rig();
        rig.say(Kinds.CLEAR, 7, 0x11223344, 5000, 0x5A);
        rig.say(Rig.join(before, new int[] {Kinds.CLEAR, asked, -1, DEEP, 0xFF}));
        checks.due(what + ": colour", rig.machine.at(0, 0, 0), colour);
        checks.due(what + ": depth", rig.machine.at(0, 0, 1), depth);
        checks.due(what + ": stencil", rig.machine.at(0, 0, 2), stencil);
    }

    private static void clearing(Checks checks) {
        checks.sentence("of these three those that are asked for (CLEAR's what: a sum of 1 colour, 2 depth, 4 stencil).");
        for (int what = 0; what < 8; what++) {
            cleared(checks, "what " + what, new int[0], (what & 1) != 0 ? -1 : 0x11223344, (what & 2) != 0 ? DEEP : 5000, (what & 4) != 0 ? 255 : 0x5A, what);
        }
        checks.sentence("the colour (of the channels that the mask has)");
        cleared(checks, "mask 0", new int[] {Kinds.MASK, 0}, 0x11223344, DEEP, 255, 7);
        cleared(checks, "mask 9", new int[] {Kinds.MASK, 9}, 0xFF2233FF, DEEP, 255, 7);
        checks.sentence("the depth (if it is written by the rule, or the rule is off)");
        cleared(checks, "not written", new int[] {Kinds.DEPTH, 7, 0}, -1, 5000, 255, 7);
        cleared(checks, "written, though its test is never", new int[] {Kinds.DEPTH, 0, 1}, -1, DEEP, 255, 7);
        cleared(checks, "off", new int[] {Kinds.DEPTH, -1, 0}, -1, DEEP, 255, 7);
        checks.sentence("the stencil (the bits of the front's write mask, all if its rule is off)");
        cleared(checks, "mask 0x81", new int[] {Kinds.STENCIL, 0, 0, 0, 0, 0x81, 0, 0, 0}, -1, DEEP, 0xDB, 7);
        cleared(checks, "mask 0", new int[] {Kinds.STENCIL, 0, 7, 0, 255, 0, 0, 0, 0}, -1, DEEP, 0x5A, 7);
        cleared(checks, "off", new int[] {Kinds.STENCIL, 0, -1, 0, 0, 0, 0, 0, 0}, -1, DEEP, 255, 7);
        cleared(checks, "the back's mask", new int[] {Kinds.STENCIL, 1, 7, 0, 0, 0, 0, 0, 0}, -1, DEEP, 255, 7);
        checks.sentence("A CLEARING makes of all open places");
        cleared(checks, "none open", new int[] {Kinds.SCISSORS, 0, 0, 0, 1}, 0x11223344, 5000, 0x5A, 7);
        cleared(checks, "logic and blending count for nothing", new int[] {Kinds.LOGIC, 0, Kinds.BLEND, 0, 0, 0, 0, 0, 0}, -1, DEEP, 255, 7);
        cleared(checks, "the stencil's and the depth's tests count for nothing",
            new int[] {Kinds.STENCIL, 0, 0, 0, 255, 255, 1, 1, 1, Kinds.DEPTH, 0, 1}, -1, DEEP, 255, 7);
    }
}
