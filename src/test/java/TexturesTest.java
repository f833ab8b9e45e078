import java.util.Arrays;

/** Terms, section 5: formats, levels, filters, wraps and borders of textures. */
final class TexturesTest {
    private static final int ONE = Rig.ONE;
    private static final int HALF = ONE / 2;

    public static void main(String[] args) {
        Checks checks = new Checks("TexturesTest");
        formats(checks);
        untold(checks);
        texels(checks);
        wraps(checks);
        ofFour(checks);
        levels(checks);
        units(checks);
        checks.finish();
    }

    /** The part of what unit n reads at s, t and level l. */
    private static int read(Rig rig, int n, int part, int s, int t, int l) {
        rig.say(5, 0, s, t, l, 0);
        int[] one = Rig.set(33, n, false, Rig.target(Rig.TO_TEMPORARY, 0, Rig.ALL), Rig.source(Rig.UNIFORM, 0));
        return rig.shown(one, Rig.TEMPORARY, 0, part);
    }

    private static String readAll(Rig rig, int n, int s, int t, int l) {
        int[] all = new int[4];
        for (int p = 0; p < 4; p++) {
            all[p] = read(rig, n, p, s, t, l);
        }
        return Arrays.toString(all);
    }

    private static String parts(int... parts) {
        return Arrays.toString(parts);
    }

    private static int fixed(int channel, int bits) {
        return (int) Math.round(65536.0 * channel / ((1 << bits) - 1));
    }

    private static void formats(Checks checks) {
        int word = 0x80FF4001;
        String[] first = {
            parts(257, 16448, ONE, 32897),
            parts(fixed(1, 5), 0, fixed(8, 5), ONE),
            parts(fixed(1, 4), 0, 0, fixed(4, 4)),
            parts(fixed(1, 5), 0, fixed(16, 5), 0),
            parts(257, 257, 257, ONE),
            parts(0, 0, 0, 257),
            parts(257, 257, 257, 16448),
            parts(fixed(1, 4), fixed(1, 4), fixed(1, 4), ONE)};
        String[] second = {
            parts(0, 0, 0, 0),
            parts(ONE, fixed(7, 6), fixed(16, 5), ONE),
            parts(ONE, ONE, 0, fixed(8, 4)),
            parts(ONE, fixed(7, 5), 0, ONE),
            parts(16448, 16448, 16448, ONE),
            parts(0, 0, 0, 16448),
            parts(ONE, ONE, ONE, 32897),
            parts(0, 0, 0, ONE)};
        for (int format = 0; format < 8; format++) {
            Rig rig = Rig.showing();
            rig.put(100, word, 0);
            rig.say(9, 0, 100, 1, 0, 1, format);
            checks.due("format " + format + ", texel 0", readAll(rig, 0, 0, 0, 0), first[format]);
            checks.due("format " + format + ", texel 1", readAll(rig, 0, HALF, 0, 0), second[format]);
        }
        // All channels of the formats with 16 bits, none of them 0.
        String[] third = {
            "", parts(fixed(0x1A, 5), fixed(0x2D, 6), fixed(0x0B, 5), ONE), parts(fixed(0xA, 4), fixed(0xB, 4), fixed(0xD, 4), fixed(0x5, 4)),
            parts(fixed(0x1A, 5), fixed(0x0D, 5), fixed(0x17, 5), 0)};
        for (int format = 1; format < 4; format++) {
            Rig rig = Rig.showing();
            rig.put(100, 0x5DBA);
            rig.say(9, 0, 100, 0, 0, 1, format);
            checks.due("format " + format + ", all channels", readAll(rig, 0, 0, 0, 0), third[format]);
        }
        Rig rig = Rig.showing();
        // Texels of 4 bits, one in each place of a word and of the next one.
        rig.put(100, 0x76543210, 0xFEDCBA98);
        rig.say(9, 0, 100, 2, 2, 1, 7);
        for (int i = 0; i < 16; i += 3) {
            checks.due("texel " + i, read(rig, 0, 1, i % 4 * (ONE / 4), i / 4 * (ONE / 4), 0), fixed(i, 4));
        }
    }

    private static void untold(Checks checks) {
        Rig rig = Rig.showing();
        rig.put(0, 0x04030201);
        checks.due("a unit that was never told is one texel, word 0", readAll(rig, 2, 12345, -999, 7 * ONE),
            parts(fixed(1, 8), fixed(2, 8), fixed(3, 8), fixed(4, 8)));
        rig.say(9, 2, 4095, 1, 1, 1, 0);
        rig.put(4095, -1);
        checks.due("the last word of memory", read(rig, 2, 0, 0, 0, 0), ONE);
        checks.due("a word that there isn't is 0", readAll(rig, 2, 0, HALF, 0), parts(0, 0, 0, 0));
        rig.say(9, 2, 1 << 20, 10, 10, 11, 4);
        checks.due("far beyond memory", readAll(rig, 2, 0, HALF, 10 * ONE), parts(0, 0, 0, ONE));
    }

    /** A picture 4 wide and 2 high of bytes 0x10 * row + column + 1. */
    private static Rig bytes() {
        Rig rig = Rig.showing();
        rig.put(50, 0x04030201, 0x14131211);
        rig.say(9, 1, 50, 2, 1, 1, 4);
        return rig;
    }

    private static int bright(Rig rig, int s, int t) {
        int v = read(rig, 1, 0, s, t, 0);
        for (int b = 0; b < 256; b++) {
            if (fixed(b, 8) == v) {
                return b;
            }
        }
        return -v;
    }

    private static void texels(Checks checks) {
        Rig rig = bytes();
        int[][] due = {{0, 0, 1}, {ONE / 4, 0, 2}, {ONE / 4 - 1, 0, 1}, {ONE - 1, ONE - 1, 0x14}, {0, HALF, 0x11}, {HALF, HALF - 1, 3}};
        for (int[] row : due) {
            checks.due("at " + row[0] + ", " + row[1], bright(rig, row[0], row[1]), row[2]);
        }
    }

    private static void wraps(Checks checks) {
        // By place across, in texels: -9 .. 9, and what each wrap makes of it in a length of 4.
        int[] places = {-9, -8, -5, -4, -1, 0, 3, 4, 5, 7, 8, 9};
        int[][] due = {
            {3, 0, 3, 0, 3, 0, 3, 0, 1, 3, 0, 1},
            {0, 0, 0, 0, 0, 0, 3, 3, 3, 3, 3, 3},
            {0, 0, 3, 3, 0, 0, 3, 3, 2, 0, 0, 1},
            {-1, -1, -1, -1, -1, 0, 3, -1, -1, -1, -1, -1}};
        for (int wrap = 0; wrap < 4; wrap++) {
            Rig across = bytes();
            across.say(24, 1, wrap, 0, 0, 25, 1, 5, -6, 7, -8);
            Rig down = Rig.showing();
            down.put(50, 0x04030201);
            down.say(9, 1, 50, 0, 2, 1, 4, 24, 1, 0, wrap, 0, 25, 1, 5, -6, 7, -8);
            for (int i = 0; i < places.length; i++) {
                int s = places[i] * (ONE / 4);
                int want = due[wrap][i] < 0 ? 5 : fixed(due[wrap][i] + 1, 8);
                checks.due("wrap " + wrap + " across of " + places[i], read(across, 1, 0, s, 0, 0), want);
                checks.due("wrap " + wrap + " down of " + places[i], read(down, 1, 0, 0, s, 0), want);
            }
        }
        Rig border = bytes();
        border.say(24, 1, 3, 3, 0, 25, 1, 5, -6, Integer.MAX_VALUE, Integer.MIN_VALUE);
        checks.due("the border's colour", readAll(border, 1, -1, 0, 0), parts(5, -6, Integer.MAX_VALUE, Integer.MIN_VALUE));
        checks.due("the border below", readAll(border, 1, 0, ONE, 0), parts(5, -6, Integer.MAX_VALUE, Integer.MIN_VALUE));
        checks.due("far away", readAll(border, 1, Integer.MIN_VALUE, Integer.MAX_VALUE, 0),
            parts(5, -6, Integer.MAX_VALUE, Integer.MIN_VALUE));
    }

    private static void ofFour(Checks checks) {
        Rig rig = Rig.showing();
        // Two texels across and two down: 0 and 255, 51 and 102.
        rig.put(50, 0x6633FF00);
        rig.say(9, 0, 50, 1, 1, 1, 4, 24, 0, 1, 1, 1);
        int t51 = fixed(51, 8);
        int t102 = fixed(102, 8);
        checks.due("in a texel's middle", read(rig, 0, 0, ONE / 4, ONE / 4, 0), 0);
        checks.due("in the next one's", read(rig, 0, 0, 3 * ONE / 4, ONE / 4, 0), ONE);
        checks.due("half way across", read(rig, 0, 0, HALF, ONE / 4, 0), HALF);
        checks.due("half way down", read(rig, 0, 0, ONE / 4, HALF, 0), t51 / 2);
        int below = t51 + (t102 - t51 >> 1);
        checks.due("in the midst", read(rig, 0, 0, HALF, HALF, 0), HALF + (below - HALF >> 1));
        checks.due("cut at the border", read(rig, 0, 0, 0, 0, 0), 0);
        checks.due("a quarter of the way", read(rig, 0, 0, 3 * ONE / 8, ONE / 4, 0), ONE / 4);
        rig.say(24, 0, 0, 0, 1);
        checks.due("repeated: half of the one beyond", read(rig, 0, 0, 0, ONE / 4, 0), HALF);
        rig.say(24, 0, 3, 1, 1, 25, 0, Integer.MIN_VALUE, 0, 0, 0);
        checks.due("with the border's colour", read(rig, 0, 0, ONE, ONE / 4, 0), ONE + (int) (((long) Integer.MIN_VALUE - ONE) / 2));
        rig.say(25, 0, -3, 0, 0, 0);
        // Half of a texel outside: -3 + (0 + 3) * 32768 / 65536, down, is -2.
        checks.due("down, below 0", read(rig, 0, 0, 0, ONE / 4, 0), -2);
    }

    private static void levels(Checks checks) {
        // 4 by 2, then 2 by 1, then 1 by 1, then 1 by 1 again: 8 + 2 + 1 + 1 bytes.
        int[] bytes = {0x90909090, 0x90909090, 0x50332222, 0};
        for (int filter = 0; filter < 4; filter++) {
            Rig rig = Rig.showing();
            rig.put(50, bytes);
            rig.say(9, 3, 50, 2, 1, 4, 4, 24, 3, 1, 1, filter);
            int[] level = {fixed(0x90, 8), fixed(0x22, 8), fixed(0x33, 8), fixed(0x50, 8)};
            int[] lods = {0, -1, Integer.MIN_VALUE, HALF, ONE - 1, ONE, ONE + HALF, 2 * ONE, 3 * ONE - 1, 3 * ONE, 4 * ONE, Integer.MAX_VALUE};
            for (int lod : lods) {
                int cut = Math.max(0, Math.min(3 * ONE, lod));
                int at = cut / ONE;
                int want = level[at];
                if (filter >= 2 && at < 3) {
                    want += (int) Math.floorDiv((long) (level[at + 1] - level[at]) * (cut % ONE), (long) ONE);
                }
                checks.due("filter " + filter + ", level " + lod, read(rig, 3, 0, ONE / 4, ONE / 4, lod), want);
            }
            rig.say(9, 3, 50, 2, 1, 2, 4);
            checks.due("filter " + filter + ", the last of two levels", read(rig, 3, 0, 0, 0, 3 * ONE), level[1]);
        }
        Rig rig = Rig.showing();
        rig.put(50, bytes);
        rig.say(9, 3, 50, 2, 1, 4, 4, 5, 0, 0, 0, 2 * ONE, 0);
        int[] one = Rig.set(32, 3, false, Rig.target(Rig.TO_TEMPORARY, 0, Rig.ALL), Rig.source(Rig.UNIFORM, 0));
        checks.due("kind 32 reads level 0", rig.shown(one, Rig.TEMPORARY, 0, 0), fixed(0x90, 8));
        unlikeSides(checks);
    }

    /** 8 wide and 2 high, then 4 by 1, 2 by 1, 1 by 1: the levels begin at the bytes 0, 16, 20, 22. */
    private static void unlikeSides(Checks checks) {
        for (int unit = 0; unit < 4; unit++) {
            Rig rig = Rig.showing();
            for (int i = 0; i < 6; i++) {
                rig.put(50 + i, 0x01010101 * (4 * i + 1) + 0x03020100);
            }
            rig.say(9, unit, 50, 3, 1, 4, 4, 24, unit, 1, 1, 0);
            int[] begins = {0, 16, 20, 22};
            for (int l = 0; l < 4; l++) {
                int last = l == 0 ? 15 : begins[l] + (4 >> l - 1) - 1;
                checks.due("unit " + unit + ", level " + l + " begins", read(rig, unit, 0, 0, 0, l * ONE), fixed(begins[l] + 1, 8));
                checks.due("unit " + unit + ", level " + l + " ends", read(rig, unit, 0, ONE, ONE, l * ONE), fixed(last + 1, 8));
            }
            rig.say(24, unit, 1, 1, 1);
            checks.due("unit " + unit + ", of four", read(rig, unit, 0, ONE / 8, ONE / 4, 0), (fixed(1, 8) + fixed(2, 8)) / 2);
        }
    }

    private static void units(Checks checks) {
        Rig rig = Rig.showing();
        rig.put(50, 0x01, 0x02, 0x03, 0x04);
        for (int unit = 0; unit < 4; unit++) {
            rig.say(9, unit, 50 + unit, 0, 0, 1, 4);
        }
        for (int unit = 0; unit < 4; unit++) {
            checks.due("unit " + unit, read(rig, unit, 0, 0, 0, 0), fixed(unit + 1, 8));
        }
        rig.put(52, 0x09);
        checks.due("memory as it is when the draw is done", read(rig, 2, 0, 0, 0, 0), fixed(9, 8));
    }
}
