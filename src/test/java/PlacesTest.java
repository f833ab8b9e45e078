/** Terms, section 6: scissors, stencil, depth, blending, logic, masks and clearing. */
final class PlacesTest {
    private static final int ONE = Rig.ONE;
    private static final int DEPTH = 8388607;

    public static void main(String[] args) {
        Checks checks = new Checks("PlacesTest");
        colours(checks);
        scissors(checks);
        depths(checks);
        stencilTests(checks);
        deeds(checks);
        stencilSides(checks);
        factors(checks);
        equations(checks);
        logic(checks);
        masks(checks);
        clearing(checks);
        checks.finish();
    }

    /** A frame of one place whose colour is drawn from uniform 0; all depths drawn are 2^23 - 1. */
    private static Rig rig() {
        Rig rig = new Rig();
        rig.coverAll(1, 1);
        rig.colourOfUniform(0);
        return rig;
    }

    private static int fixed(int channel) {
        return channel * 257;
    }

    private static void tellColour(Rig rig, int colour) {
        rig.say(5, 0, fixed(colour & 255), fixed(colour >>> 8 & 255), fixed(colour >>> 16 & 255), fixed(colour >>> 24));
    }

    private static void colours(Checks checks) {
        int[][] due = {{0, 0}, {-1, 0}, {Integer.MIN_VALUE, 0}, {ONE, 255}, {ONE + 1, 255}, {Integer.MAX_VALUE, 255}, {ONE / 2, 128},
            {128, 0}, {129, 1}, {257, 1}, {385, 1}, {386, 2}, {65407, 254}, {65408, 255}};
        for (int[] row : due) {
            for (int k = 0; k < 4; k++) {
                Rig rig = rig();
                int[] uniform = {5, 0, 0, 0, 0, 0};
                uniform[2 + k] = row[0];
                rig.say(uniform);
                rig.draw();
                checks.due("channel " + k + " of " + row[0], rig.machine.at(0, 0, 0), row[1] << 8 * k);
            }
        }
    }

    private static void scissors(Checks checks) {
        int[][] due = {
            // x0, y0, x1, y1, and how many of 4 by 4 places are open
            {0, 0, 4, 4, 16}, {1, 1, 3, 4, 6}, {0, 0, -1, 0, 16}, {2, 9, 1, 3, 16}, {2, 0, 2, 4, 0}, {0, 2, 4, 2, 0}, {0, 3, 4, 1, 0},
            {-5, -5, 1, 1, 1}, {3, 3, 99, 99, 1}, {4, 4, 9, 9, 0},
            {Integer.MIN_VALUE, Integer.MIN_VALUE, Integer.MAX_VALUE, Integer.MAX_VALUE, 16},
            {Integer.MAX_VALUE, 0, Integer.MIN_VALUE, 0, 16}};
        for (int[] row : due) {
            Rig rig = new Rig();
            rig.coverAll(4, 4);
            rig.say(5, 0, ONE, 0, 0, 0);
            rig.colourOfUniform(0);
            rig.say(3, row[0], row[1], row[2], row[3], 17, 0, 0, 3);
            String what = "scissors " + java.util.Arrays.toString(row);
            checks.due(what + ": drawn", rig.machine.count(6), row[4]);
            checks.due(what + ": not open", rig.machine.count(3), 16 - row[4]);
            rig.say(1, 7, 0x44, 5, 6);
            int cleared = 0;
            for (int i = 0; i < 16; i++) {
                boolean is = rig.machine.at(i % 4, i / 4, 0) == 0x44 && rig.machine.at(i % 4, i / 4, 1) == 5
                    && rig.machine.at(i % 4, i / 4, 2) == 6;
                cleared += is ? 1 : 0;
            }
            checks.due(what + ": cleared", cleared, row[4]);
        }
        Rig rig = new Rig();
        rig.coverAll(3, 3);
        rig.say(5, 0, ONE, 0, 0, 0);
        rig.colourOfUniform(0);
        rig.say(3, 1, 2, 2, 3, 17, 0, 0, 3);
        checks.due("the open place", rig.machine.at(1, 2, 0), 255);
        checks.due("one beside", rig.machine.at(2, 2, 0), 0);
        checks.due("one above", rig.machine.at(1, 1, 0), 0);
    }

    private static boolean holds(int test, int a, int b) {
        switch (test) {
            case 0: return false;
            case 1: return a < b;
            case 2: return a == b;
            case 3: return a <= b;
            case 4: return a > b;
            case 5: return a != b;
            case 6: return a >= b;
            default: return true;
        }
    }

    private static void depths(Checks checks) {
        for (int test = -1; test <= 7; test++) {
            for (int place : new int[] {DEPTH - 1, DEPTH, DEPTH + 1}) {
                for (int written = 0; written < 2; written++) {
                    Rig rig = rig();
                    rig.say(5, 0, ONE, 0, 0, 0, 1, 2, 0, place, 0, 10, test, written, 17, 0, 0, 3);
                    boolean holds = test < 0 || holds(test, DEPTH, place);
                    String what = "depth's test " + test + " against " + place + ", written " + written;
                    checks.due(what + ": colour", rig.machine.at(0, 0, 0), holds ? 255 : 0);
                    checks.due(what + ": depth", rig.machine.at(0, 0, 1), holds && test >= 0 && written == 1 ? DEPTH : place);
                    checks.due(what + ": answer 2", rig.machine.count(5), holds ? 0 : 1);
                    checks.due(what + ": answer 3", rig.machine.count(6), holds ? 1 : 0);
                }
            }
        }
    }

    private static void stencilTests(Checks checks) {
        for (int test = -1; test <= 7; test++) {
            for (int stencil : new int[] {0x33, 0x35, 0x37}) {
                Rig rig = rig();
                // In the mask 0x0F the value 0xA5 is 5; the place's is 3, 5 or 7.
                rig.say(5, 0, ONE, 0, 0, 0, 1, 4, 0, 0, stencil, 11, 0, test, 0xA5, 0x0F, 255, 1, 1, 2, 17, 0, 0, 3);
                boolean holds = test < 0 || holds(test, 5, stencil & 15);
                String what = "stencil's test " + test + " against " + stencil;
                checks.due(what + ": colour", rig.machine.at(0, 0, 0), holds ? 255 : 0);
                checks.due(what + ": stencil", rig.machine.at(0, 0, 2), test < 0 ? stencil : holds ? 0xA5 : 0);
                checks.due(what + ": answer 1", rig.machine.count(4), holds ? 0 : 1);
                checks.due(what + ": answer 3", rig.machine.count(6), holds ? 1 : 0);
            }
        }
    }

    private static void deeds(Checks checks) {
        int[] stencils = {0, 1, 0x5A, 254, 255};
        int[][] due = {
            {0, 1, 0x5A, 254, 255}, {0, 0, 0, 0, 0}, {0xC3, 0xC3, 0xC3, 0xC3, 0xC3}, {1, 2, 0x5B, 255, 255}, {0, 0, 0x59, 253, 254},
            {255, 254, 0xA5, 1, 0}, {1, 2, 0x5B, 255, 0}, {255, 0, 0x59, 253, 254}};
        for (int deed = 0; deed < 8; deed++) {
            for (int i = 0; i < stencils.length; i++) {
                for (int when = 0; when < 3; when++) {
                    for (int written : new int[] {255, 0x0F, 0}) {
                        Rig rig = rig();
                        int[] rule = {11, 0, when == 0 ? 0 : 7, 0xC3, 255, written, 0, 0, 0};
                        rule[6 + when] = deed;
                        rig.say(1, 4, 0, 0, stencils[i]);
                        rig.say(Rig.join(rule, new int[] {10, when == 1 ? 0 : 7, 0, 17, 0, 0, 3}));
                        int want = stencils[i] & ~written | due[deed][i] & written;
                        String what = "deed " + deed + " of " + stencils[i] + ", case " + when + ", written " + written;
                        checks.due(what, rig.machine.at(0, 0, 2), want);
                        checks.due(what + ": answer", rig.machine.count(4 + when), 1);
                    }
                }
            }
        }
    }

    private static void stencilSides(Checks checks) {
        for (int side = 0; side < 2; side++) {
            Rig rig = rig();
            // Each side has its own rule; the clock makes a back of the front.
            rig.say(11, 0, 7, 10, 255, 255, 0, 0, 2, 11, 1, 7, 20, 255, 255, 0, 0, 2, 16, 0, side, 17, 0, 0, 3);
            checks.due("side " + side, rig.machine.at(0, 0, 2), side == 0 ? 10 : 20);
        }
        Rig rig = rig();
        rig.say(11, 1, 0, 0, 0, 255, 1, 1, 1, 17, 0, 0, 3);
        checks.due("the back's rule is none of the front's", rig.machine.count(6), 1);
    }

    private static int blendOne(int s, int d, int constant, int... blend) {
        Rig rig = rig();
        tellColour(rig, s);
        rig.say(1, 1, d, 0, 0, 13, constant, 12, blend[0], blend[1], blend[2], blend[3], blend[4], blend[5], 17, 0, 0, 3);
        return rig.machine.at(0, 0, 0);
    }

    private static int channel(int colour, int k) {
        return colour >>> 8 * k & 255;
    }

    private static int colour(int r, int g, int b, int a) {
        return r | g << 8 | b << 16 | a << 24;
    }

    private static void factors(Checks checks) {
        int s = colour(10, 100, 200, 60);
        int d = colour(250, 7, 90, 130);
        int c = colour(33, 222, 111, 44);
        for (int number = 0; number <= 14; number++) {
            int ofS = 0;
            int ofD = 0;
            for (int k = 0; k < 4; k++) {
                int[] factor = {0, 255, channel(s, k), 255 - channel(s, k), channel(d, k), 255 - channel(d, k), 60, 195, 130, 125,
                    channel(c, k), 255 - channel(c, k), 44, 211, k == 3 ? 255 : 60};
                ofS |= (int) Math.round(channel(s, k) * factor[number] / 255.0) << 8 * k;
                ofD |= (int) Math.round(channel(d, k) * factor[number] / 255.0) << 8 * k;
            }
            checks.due("factor " + number + " of s", blendOne(s, d, c, number, 0, number, 0, 0, 0), ofS);
            checks.due("factor " + number + " of d", blendOne(s, d, c, 0, number, 0, number, 0, 0), ofD);
        }
        // The channels r, g, b have factors of their own, and so has a.
        checks.due("s for r, g, b; d for a", blendOne(s, d, c, 1, 0, 0, 1, 0, 0), colour(10, 100, 200, 130));
        checks.due("d for r, g, b; s for a", blendOne(s, d, c, 0, 1, 1, 0, 0, 0), colour(250, 7, 90, 60));
        checks.due("14 where 255 - da is less", blendOne(colour(255, 255, 255, 200), colour(0, 0, 0, 155), c, 14, 0, 14, 0, 0, 0),
            colour(100, 100, 100, 200));
    }

    private static void equations(Checks checks) {
        int s = colour(10, 100, 200, 60);
        int d = colour(250, 7, 90, 130);
        checks.due("s + d", blendOne(s, d, 0, 1, 1, 1, 1, 0, 0), colour(255, 107, 255, 190));
        checks.due("s - d", blendOne(s, d, 0, 1, 1, 1, 1, 1, 1), colour(0, 93, 110, 0));
        checks.due("d - s", blendOne(s, d, 0, 1, 1, 1, 1, 2, 2), colour(240, 0, 0, 70));
        checks.due("the lesser one, whatever the factors", blendOne(s, d, 0, 0, 0, 0, 0, 3, 3), colour(10, 7, 90, 60));
        checks.due("the greater one", blendOne(s, d, 0, 0, 0, 0, 0, 4, 4), colour(250, 100, 200, 130));
        checks.due("an equation of its own for a", blendOne(s, d, 0, 1, 1, 1, 1, 3, 0), colour(10, 7, 90, 190));
        checks.due("and for r, g, b", blendOne(s, d, 0, 1, 1, 1, 1, 0, 4), colour(255, 107, 255, 130));
        checks.due("none", blendOne(s, d, 0, 0, 1, 0, 1, -1, 4), s);
        checks.due("to the nearest", blendOne(colour(1, 2, 3, 127), 0, 0, 6, 0, 6, 0, 0, 0), colour(0, 1, 1, 63));
        checks.due("to the nearest, above", blendOne(colour(1, 2, 3, 128), 0, 0, 6, 0, 6, 0, 0, 0), colour(1, 1, 2, 64));
    }

    private static void logic(Checks checks) {
        int s = 0x0F33AA0C;
        int d = 0x55CC0F0A;
        for (int number = 0; number < 16; number++) {
            int want = 0;
            for (int bit = 0; bit < 32; bit++) {
                int place = 2 * (s >>> bit & 1) + (d >>> bit & 1);
                want |= (number >>> place & 1) << bit;
            }
            Rig rig = rig();
            tellColour(rig, s);
            rig.say(1, 1, d, 0, 0, 14, number, 12, 1, 1, 1, 1, 0, 0, 17, 0, 0, 3);
            checks.due("logic " + number + ", ahead of blending", rig.machine.at(0, 0, 0), want);
        }
        Rig rig = rig();
        tellColour(rig, s);
        rig.say(1, 1, d, 0, 0, 14, 0, 14, -1, 17, 0, 0, 3);
        checks.due("none", rig.machine.at(0, 0, 0), s);
    }

    private static void masks(Checks checks) {
        int s = 0x44332211;
        int d = 0xDDCCBBAA;
        for (int mask = 0; mask < 16; mask++) {
            int want = 0;
            for (int k = 0; k < 4; k++) {
                want |= channel((mask >> k & 1) == 1 ? s : d, k) << 8 * k;
            }
            Rig rig = rig();
            tellColour(rig, s);
            rig.say(1, 1, d, 0, 0, 15, mask, 17, 0, 0, 3);
            checks.due("mask " + mask + ", drawn", rig.machine.at(0, 0, 0), want);
            checks.due("mask " + mask + ", answer 3", rig.machine.count(6), 1);
            rig.say(15, 15, 1, 1, d, 0, 0, 15, mask, 1, 1, s, 0, 0);
            checks.due("mask " + mask + ", cleared", rig.machine.at(0, 0, 0), want);
        }
    }

    private static void clearing(Checks checks) {
        for (int what = 0; what < 8; what++) {
            DrawingMachine machine = new DrawingMachine();
            machine.feed(1, what, 0x80000001, 77, 88);
            machine.run(1);
            checks.due("clear " + what + ": colour", machine.at(0, 0, 0), (what & 1) != 0 ? 0x80000001 : 0);
            checks.due("clear " + what + ": depth", machine.at(0, 0, 1), (what & 2) != 0 ? 77 : 0);
            checks.due("clear " + what + ": stencil", machine.at(0, 0, 2), (what & 4) != 0 ? 88 : 0);
        }
        Rig rig = new Rig();
        rig.say(10, 0, 0, 1, 2, 0, 5, 0);
        checks.due("a depth that isn't written", rig.machine.at(0, 0, 1), 0);
        rig.say(10, 0, 1, 1, 2, 0, 5, 0);
        checks.due("a depth that is written", rig.machine.at(0, 0, 1), 5);
        rig.say(10, -1, 0, 1, 2, 0, 6, 0);
        checks.due("a rule that is off", rig.machine.at(0, 0, 1), 6);
        rig.say(11, 0, 0, 0, 0, 0x0F, 0, 0, 0, 1, 4, 0, 0, 0xAB);
        checks.due("the front's write mask", rig.machine.at(0, 0, 2), 0x0B);
        rig.say(11, 0, -1, 0, 0, 0x0F, 0, 0, 0, 11, 1, 7, 0, 0, 1, 0, 0, 0, 1, 4, 0, 0, 0xCD);
        checks.due("all, if its rule is off; the back's rule counts for nothing", rig.machine.at(0, 0, 2), 0xCD);
    }
}
