import java.util.ArrayList;
import java.util.Arrays;
import java.util.List;

/** Terms, section 5: each sentence that names an edge, one after the other. */
final class EdgesOfTexturesTest {
    private static final int ONE = Rig.ONE;
    private static final int HALF = ONE / 2;
    private static final int LEAST = Integer.MIN_VALUE;
    private static final int MOST = Integer.MAX_VALUE;
    private static final int PICTURE = 100;

    public static void main(String[] args) {
        Checks checks = new Checks("EdgesOfTexturesTest");
        wordsThatArentThere(checks);
        sizesOfLevels(checks);
        bitsOfTexels(checks);
        channels(checks);
        untoldChannels(checks);
        cutLevel(checks);
        lastLevel(checks);
        oneTexel(checks);
        ofFour(checks);
        repeated(checks);
        cut(checks);
        mirrored(checks);
        border(checks);
        wrapsOfFour(checks);
        mixing(checks);
        allTogether(checks);
        checks.finish();
    }

    /** What unit 0 reads, all four parts; its TEXTURE, MANNER and BORDER have been told. */
    private static int[] read(Rig rig, int s, int t, int l) {
        rig.say(Kinds.UNIFORM, 0, s, t, l, 0);
        int[] one = Rig.set(33, 0, false, Rig.target(Rig.TO_TEMPORARY, 0, Rig.ALL), Rig.source(Rig.UNIFORM, 0));
        int[] parts = new int[4];
        for (int p = 0; p < 4; p++) {
            parts[p] = rig.shown(one, Rig.TEMPORARY, 0, p);
        }
        return parts;
    }

    private static int red(Rig rig, int s, int t, int l) {
        rig.say(Kinds.UNIFORM, 0, s, t, l, 0);
        int[] one = Rig.set(33, 0, false, Rig.target(Rig.TO_TEMPORARY, 0, Rig.ALL), Rig.source(Rig.UNIFORM, 0));
        return rig.shown(one, Rig.TEMPORARY, 0, 0);
    }

    private static Rig picture(int from, int logWide, int logHigh, int levels, int format, int... words) {
        Rig rig = Rig.showing();
        rig.put(from, words);
        rig.say(Kinds.TEXTURE, 0, from, logWide, logHigh, levels, format);
        return rig;
    }

    private static int fixed(int channel, int bits) {
        return (int) Math.round(65536.0 * channel / ((1 << bits) - 1));
    }

    private static int bright(int b) {
        return fixed(b, 8);
    }

    private static void parts(Checks checks, String what, int[] got, int... due) {
        checks.due(what, Arrays.toString(got), Arrays.toString(due));
    }

    private static void wordsThatArentThere(Checks checks) {
        checks.sentence("MEMORY is that of section 1; a word that there isn't is read as 0.");
        // Two words of bytes, of which the second one is beyond memory.
        Rig rig = picture(4095, 1, 2, 1, 4, 0x04030201);
        int[] due = {1, 2, 3, 4, 0, 0, 0, 0};
        for (int i = 0; i < 8; i++) {
            checks.due("byte " + i + " from 4095 on", red(rig, i % 2 * HALF, i / 2 * (ONE / 4), 0), bright(due[i]));
        }
        parts(checks, "from 4096 on", read(picture(4096, 0, 0, 1, 0), 0, 0, 0), 0, 0, 0, 0);
        parts(checks, "from 2^20 on, the last texel of all", read(picture(1 << 20, 10, 10, 11, 0), ONE - 1, ONE - 1, 10 * ONE), 0, 0, 0, 0);
        parts(checks, "format 1, which has no a", read(picture(4096, 0, 0, 1, 1), 0, 0, 0), 0, 0, 0, ONE);
    }

    private static void sizesOfLevels(Checks checks) {
        checks.sentence("it is 2^a wide and 2^b high at level 0, and at level l 2^(a - l) and 2^(b - l) (2^0 at least)");
        // 4 wide and 1 high: 4, 2, 1, 1 and 1 texels; then 1 wide and 4 high likewise.
        int[] begins = {0, 4, 6, 7, 8};
        for (int turn = 0; turn < 2; turn++) {
            Rig rig = picture(PICTURE, turn == 0 ? 2 : 0, turn == 0 ? 0 : 2, 5, 4, 0x04030201, 0x08070605, 0x00000009);
            rig.say(Kinds.MANNER, 0, 1, 1, 0);
            for (int l = 0; l < 5; l++) {
                int last = l < 4 ? begins[l + 1] - 1 : 8;
                checks.due("level " + l + " begins, turn " + turn, red(rig, 0, 0, l * ONE), bright(begins[l] + 1));
                checks.due("level " + l + " ends, turn " + turn, red(rig, ONE, ONE, l * ONE), bright(last + 1));
            }
        }
        // The greatest picture has 1024 * 1024 texels, and its levels end 349525 texels later.
        Rig great = picture(0, 10, 10, 11, 7);
        great.put(0, 0x0000000F);
        checks.due("the first texel of the greatest picture", red(great, 0, 0, 0), ONE);
        checks.due("its last texel is beyond memory", red(great, ONE - 1, ONE - 1, 0), 0);
        // 4096 words hold 32768 texels of four bits, 32 rows of 1024.
        great.put(4095, 0x70000000);
        checks.due("the last texel of memory", red(great, ONE - 1, 31 * 64, 0), fixed(7, 4));
        checks.due("the first one behind", red(great, 0, 32 * 64, 0), 0);
    }

    private static void bitsOfTexels(Checks checks) {
        checks.sentence("texel n of all (level 0 first) begins at bit n * B, B being how many bits a texel has; bit k is bit k mod 32 of word from "
            + "+ k / 32 (the lowest one is bit 0).");
        // Eleven levels of one texel each, of 4, 8, 16 and 32 bits.
        int[] formats = {7, 5, 6, 0};
        int[] bits = {4, 8, 16, 32};
        for (int i = 0; i < 4; i++) {
            int[] words = new int[11];
            int[] due = new int[11];
            for (int n = 0; n < 11; n++) {
                int texel = formats[i] == 7 ? n + 1 : 7 * n + 5;
                words[n * bits[i] / 32] |= texel << n * bits[i] % 32;
                due[n] = formats[i] == 7 ? fixed(texel, 4) : bright(texel);
            }
            Rig rig = picture(PICTURE, 0, 0, 11, formats[i], words);
            for (int n = 0; n < 11; n++) {
                rig.say(Kinds.UNIFORM, 0, 0, 0, n * ONE, 0);
                int[] one = Rig.set(33, 0, false, Rig.target(Rig.TO_TEMPORARY, 0, Rig.ALL), Rig.source(Rig.UNIFORM, 0));
                checks.due("texel " + n + " of " + bits[i] + " bits", rig.shown(one, Rig.TEMPORARY, 0, formats[i] == 5 ? 3 : 0), due[n]);
            }
        }
    }

    private static void channels(Checks checks) {
        checks.sentence("A channel of n bits as FIXED is 65536 times it, divided by 2^n - 1, to the nearest (no two are as near).");
        int[][] bits = {{8, 8, 8, 8}, {5, 6, 5, 0}, {4, 4, 4, 4}, {5, 5, 5, 1}, {8, 8, 8, 0}, {0, 0, 0, 8}, {8, 8, 8, 8}, {4, 4, 4, 0}};
        int[] word = {-1, 0xFFFF, 0xFFFF, 0xFFFF, 0xFF, 0xFF, 0xFFFF, 0xF};
        for (int format = 0; format < 8; format++) {
            int[] most = new int[4];
            int[] one = new int[4];
            for (int k = 0; k < 4; k++) {
                boolean has = bits[format][k] > 0;
                most[k] = has || k == 3 ? ONE : 0;
                one[k] = has ? fixed(1, bits[format][k]) : k == 3 ? ONE : 0;
            }
            parts(checks, "all bits of format " + format, read(picture(PICTURE, 0, 0, 1, format, word[format]), 0, 0, 0), most);
            int[] ones = {0x01010101, 0x0821, 0x1111, 0x8421, 0x01, 0x01, 0x0101, 0x1};
            parts(checks, "the least bits of format " + format, read(picture(PICTURE, 0, 0, 1, format, ones[format]), 0, 0, 0), one);
        }
        for (int c : new int[] {0, 1, 127, 128, 254, 255}) {
            checks.due("channel " + c + " of 8 bits", red(picture(PICTURE, 0, 0, 1, 4, c), 0, 0, 0), bright(c));
        }
    }

    private static void untoldChannels(Checks checks) {
        checks.sentence("Brightness is r, g and b; what isn't told is 0 for r, g, b and the greatest for a.");
        parts(checks, "format 4", read(picture(PICTURE, 0, 0, 1, 4, 0x33), 0, 0, 0), bright(51), bright(51), bright(51), ONE);
        parts(checks, "format 5", read(picture(PICTURE, 0, 0, 1, 5, 0x33), 0, 0, 0), 0, 0, 0, bright(51));
        parts(checks, "format 6", read(picture(PICTURE, 0, 0, 1, 6, 0x6633), 0, 0, 0), bright(51), bright(51), bright(51), bright(102));
        parts(checks, "format 7", read(picture(PICTURE, 0, 0, 1, 7, 0x3), 0, 0, 0), fixed(3, 4), fixed(3, 4), fixed(3, 4), ONE);
        parts(checks, "format 1", read(picture(PICTURE, 0, 0, 1, 1, 0), 0, 0, 0), 0, 0, 0, ONE);
        parts(checks, "format 3, a of one bit", read(picture(PICTURE, 0, 0, 1, 3, 0), 0, 0, 0), 0, 0, 0, 0);
    }

    private static void cutLevel(Checks checks) {
        checks.sentence("With LOD for l, cut to 0 .. 65536 times (levels - 1)");
        for (int levels : new int[] {1, 2, 4}) {
            for (int filter = 0; filter < 4; filter++) {
                Rig rig = picture(PICTURE, 0, 0, levels, 4, 0x40302010);
                rig.say(Kinds.MANNER, 0, 1, 1, filter);
                for (int l : new int[] {LEAST, -1, 0, (levels - 1) * ONE, (levels - 1) * ONE + 1, MOST}) {
                    int level = l <= 0 ? 0 : levels - 1;
                    checks.due("level " + l + " of " + levels + ", filter " + filter, red(rig, 0, 0, l), bright(0x10 * (level + 1)));
                }
            }
        }
    }

    private static void lastLevel(Checks checks) {
        checks.sentence("LEVELS: one texel of the level LOD / 65536, down, and of the next one (if there is one), mixed by what is left of LOD.");
        for (int filter = 0; filter < 8; filter++) {
            lastOfTwo(checks, filter % 4, filter < 4 ? 0x10 : 0xF0);
        }
    }

    private static void lastOfTwo(Checks checks, int filter, int ofFirst) {
        int first = bright(ofFirst);
        int second = bright(0x100 - ofFirst);
        Rig rig = picture(PICTURE, 0, 0, 2, 4, 0x100 - ofFirst << 8 | ofFirst);
        rig.say(Kinds.MANNER, 0, 0, 0, filter);
        for (int l : new int[] {0, 1, HALF, ONE - 1, ONE, ONE + 1}) {
            int mixed = first + (int) ((long) (second - first) * Math.min(l, ONE) >> 16);
            int due = filter >= 2 ? mixed : l < ONE ? first : second;
            checks.due("filter " + filter + " at " + l + " from " + first, red(rig, 0, 0, l), due);
        }
    }

    /** 1024 texels of four bits, texel i being i mod 15; the first and the last one are 15. */
    private static Rig wide(boolean down, int wrap, int filter) {
        Rig rig = Rig.showing();
        int[] words = new int[128];
        for (int i = 0; i < 1024; i++) {
            int texel = i == 0 || i == 1023 ? 15 : i % 15;
            words[i / 8] |= texel << 4 * (i % 8);
        }
        rig.store(PICTURE, words);
        rig.say(Kinds.TEXTURE, 0, PICTURE, down ? 0 : 10, down ? 10 : 0, 1, 7, Kinds.BORDER, 0, 1, 2, 3, 4);
        rig.say(Kinds.MANNER, 0, down ? 0 : wrap, down ? wrap : 0, filter);
        return rig;
    }

    private static int texelOf(int i) {
        return fixed(i == 0 || i == 1023 ? 15 : i % 15, 4);
    }

    private static void oneTexel(Checks checks) {
        checks.sentence("u is s * w / 65536, down, of the exact product, v is t * h / 65536; these are wrapped.");
        for (int i = 0; i < 2; i++) {
            boolean down = i == 1;
            Rig rig = wide(down, 1, 0);
            int[][] rows = {{0, 0}, {63, 0}, {64, 1}, {-1, 0}, {ONE - 1, 1023}, {ONE - 64, 1023}, {ONE - 65, 1022}, {ONE, 1023}, {1 << 22, 1023},
                {1 << 25, 1023}, {MOST, 1023}, {LEAST, 0}, {-(1 << 22), 0}, {5 << 22, 1023}};
            for (int[] row : rows) {
                checks.due((down ? "t " : "s ") + row[0], red(rig, down ? 0 : row[0], down ? row[0] : 0, 0), texelOf(row[1]));
            }
        }
    }

    private static void ofFour(Checks checks) {
        checks.sentence("U is s * w, less 32768, exact; u is U / 65536, down, and u + 1, both wrapped, with f, what is left (0 .. 65535)");
        for (int i = 0; i < 2; i++) {
            boolean down = i == 1;
            Rig rig = wide(down, 1, 1);
            // Texel n is alone in its middle, at 64 n + 32; a 64th part of the way is 1024 of 65536.
            int[][] rows = {{32, 0, 0}, {96, 1, 0}, {33, 0, 1024}, {95, 0, 63 * 1024}, {31, 0, 0}, {ONE - 32, 1023, 0}, {ONE - 33, 1022, 63 * 1024},
                {ONE - 31, 1023, 0}, {0, 0, 0}, {LEAST, 0, 0}, {MOST, 1023, 0}, {1 << 22, 1023, 0}, {-(1 << 22), 0, 0}};
            for (int[] row : rows) {
                int p = texelOf(row[1]);
                int q = texelOf(Math.min(row[1] + 1, 1023));
                int due = p + (int) ((long) (q - p) * row[2] >> 16);
                checks.due((down ? "t " : "s ") + row[0], red(rig, down ? 0 : row[0], down ? row[0] : 0, 0), due);
            }
        }
    }

    // ---- wraps

    /** By places far beyond both ends: which texel of n it is; -1: the border's colour. */
    private static void wrapped(Checks checks, int wrap, int log, int[][] rows) {
        for (int i = 0; i < 2; i++) {
            boolean down = i == 1;
            Rig rig = picture(PICTURE, down ? 0 : log, down ? log : 0, 1, 4, 0x04030201);
            rig.say(Kinds.BORDER, 0, -777, 5, 6, 7, Kinds.MANNER, 0, down ? 0 : wrap, down ? wrap : 0, 0);
            for (int[] row : rows) {
                int s = row[0] * (ONE >> log);
                int due = row[1] < 0 ? -777 : bright(row[1] + 1);
                checks.due("place " + row[0] + " in " + (1 << log) + (down ? ", down" : ", across"), red(rig, down ? 0 : s, down ? s : 0, 0), due);
            }
        }
    }

    private static void repeated(Checks checks) {
        checks.sentence("0 REPEATED: i mod n (0 .. n - 1).");
        wrapped(checks, 0, 2, new int[][] {{0, 0}, {3, 3}, {4, 0}, {7, 3}, {8, 0}, {-1, 3}, {-4, 0}, {-5, 3}, {100001, 1}, {-100001, 3}});
        wrapped(checks, 0, 0, new int[][] {{0, 0}, {1, 0}, {-1, 0}, {32767, 0}, {-32768, 0}});
    }

    private static void cut(Checks checks) {
        checks.sentence("1 CUT: to 0 .. n - 1.");
        wrapped(checks, 1, 2, new int[][] {{0, 0}, {1, 1}, {3, 3}, {4, 3}, {5, 3}, {100001, 3}, {-1, 0}, {-4, 0}, {-100001, 0}});
        wrapped(checks, 1, 0, new int[][] {{0, 0}, {1, 0}, {-1, 0}, {32767, 0}, {-32768, 0}});
    }

    private static void mirrored(Checks checks) {
        checks.sentence("2 MIRRORED: j = i mod 2 n; j if it is below n, else 2 n - 1 - j.");
        wrapped(checks, 2, 2, new int[][] {{0, 0}, {3, 3}, {4, 3}, {5, 2}, {7, 0}, {8, 0}, {11, 3}, {12, 3}, {-1, 0}, {-4, 3}, {-5, 3}, {-8, 0}, {-9, 0}});
        wrapped(checks, 2, 0, new int[][] {{0, 0}, {1, 0}, {2, 0}, {-1, 0}, {-2, 0}, {32767, 0}, {-32768, 0}});
    }

    private static void border(Checks checks) {
        checks.sentence("3 BORDER: i if it is 0 .. n - 1, else there is no texel: the unit's BORDER colour stands for it.");
        wrapped(checks, 3, 2, new int[][] {{0, 0}, {3, 3}, {4, -1}, {-1, -1}, {100001, -1}, {-100001, -1}});
        wrapped(checks, 3, 0, new int[][] {{0, 0}, {1, -1}, {-1, -1}, {32767, -1}, {-32768, -1}});
        // All four parts, in one direction beyond the end, or in both.
        Rig rig = picture(PICTURE, 0, 0, 1, 4, 0x01);
        rig.say(Kinds.BORDER, 0, LEAST, -1, ONE, MOST, Kinds.MANNER, 0, 3, 3, 0);
        parts(checks, "across alone", read(rig, -1, 0, 0), LEAST, -1, ONE, MOST);
        parts(checks, "down alone", read(rig, 0, ONE, 0), LEAST, -1, ONE, MOST);
        parts(checks, "both", read(rig, ONE, -1, 0), LEAST, -1, ONE, MOST);
        parts(checks, "none", read(rig, ONE - 1, 0, 0), bright(1), bright(1), bright(1), ONE);
    }

    /** Half way between the first or last of two texels and what is beyond it. */
    private static void wrapsOfFour(Checks checks) {
        checks.sentence("Of the texels at u, u + 1, v, v + 1: the mix of row v by f, that of row v + 1 by f, these mixed by g.");
        int low = bright(0x20);
        int high = bright(0xE0);
        int beyond = -4000;
        int[][] due = {{(low + high) / 2, (low + high) / 2}, {low, high}, {low, high}, {beyond + (low - beyond >> 1), high + (beyond - high >> 1)}};
        for (int wrap = 0; wrap < 4; wrap++) {
            for (int i = 0; i < 2; i++) {
                boolean down = i == 1;
                Rig rig = picture(PICTURE, down ? 0 : 1, down ? 1 : 0, 1, 4, 0x0000E020);
                rig.say(Kinds.BORDER, 0, beyond, 0, 0, 0, Kinds.MANNER, 0, down ? 0 : wrap, down ? wrap : 0, 1);
                checks.due("wrap " + wrap + " ahead of the first one" + i, red(rig, 0, 0, 0), due[wrap][0]);
                checks.due("wrap " + wrap + " behind the last one" + i, red(rig, down ? 0 : ONE, down ? ONE : 0, 0), due[wrap][1]);
            }
        }
        // Four texels unlike each other, a quarter of the way across and three quarters down.
        Rig rig = picture(PICTURE, 1, 1, 1, 4, 0xF0800A51);
        rig.say(Kinds.MANNER, 0, 1, 1, 1);
        int upper = bright(0x51) + (bright(0x0A) - bright(0x51) >> 2);
        int lower = bright(0x80) + (bright(0xF0) - bright(0x80) >> 2);
        checks.due("in the midst", red(rig, ONE / 4 + ONE / 8, ONE / 4 + 3 * ONE / 8, 0), upper + ((lower - upper) * 3 >> 2));
    }

    private static void mixing(Checks checks) {
        checks.sentence("MIXING p and q by f (0 .. 65535): p + (q - p) * f / 65536, down, with q - p as it is (no int), for each channel.");
        int[] borders = {LEAST, MOST, -1, 0, 1};
        for (int border : borders) {
            // One white texel, the border on both sides: from the border to ONE, and back.
            Rig rig = picture(PICTURE, 0, 0, 1, 4, 0xFF);
            rig.say(Kinds.BORDER, 0, border, 0, 0, 0, Kinds.MANNER, 0, 3, 0, 1);
            for (int f : new int[] {0, 1, HALF, ONE - 1}) {
                int in = (int) (border + (((long) ONE - border) * f >> 16));
                int out = (int) (ONE + (((long) border - ONE) * f >> 16));
                checks.due("from " + border + " by " + f, red(rig, f - HALF, HALF, 0), in);
                checks.due("to " + border + " by " + f, red(rig, f + HALF, HALF, 0), out);
            }
        }
    }

    /** All wraps, filters and formats at edges of s, t and l: the class and the model. */
    private static void allTogether(Checks checks) {
        checks.sentence("A READING has s, t and l (FIXED).");
        int[] at = {LEAST, MOST, -ONE - 1, -ONE, -1, 0, 1, HALF - 1, HALF, ONE - 1, ONE, ONE + 1, 3 * ONE / 2, 1 << 22, -(1 << 22), 12345};
        int[] program = Rig.join(
            Rig.set(30, Rig.TO_TEMPORARY, 0, Rig.ALL, Rig.part(Rig.IN, 0, 0)),
            Rig.set(33, 2, false, Rig.target(Rig.TO_TEMPORARY, 1, Rig.ALL), Rig.source(Rig.TEMPORARY, 0)),
            // The four parts become one number, of which each byte is shown.
            Rig.set(29, Rig.TO_TEMPORARY, 2, Rig.ALL, Rig.source(Rig.TEMPORARY, 1), Rig.source(Rig.UNIFORM, 20)),
            Rig.set(25, Rig.TO_TEMPORARY, 1, Rig.ALL, Rig.source(Rig.TEMPORARY, 1), Rig.source(Rig.TEMPORARY, 2)),
            Rig.set(12, Rig.TO_OUT, 0, Rig.ALL, Rig.source(Rig.TEMPORARY, 1)), Rig.stop());
        for (int format = 0; format < 8; format++) {
            for (int filter = 0; filter < 4; filter++) {
                Both both = new Both(checks, "format " + format + ", filter " + filter);
                both.frame(16, 1, 8);
                List<Integer> words = opening(program);
                for (int wraps = 0; wraps < 16; wraps++) {
                    words.addAll(List.of(Kinds.TEXTURE, 2, 600 + wraps, wraps % 3, (wraps + format) % 4, 1 + (wraps + filter) % 5, format,
                        Kinds.MANNER, 2, wraps % 4, wraps / 4, filter));
                    for (int i = 0; i < 16; i++) {
                        words.addAll(List.of(Kinds.UNIFORM, i, at[(i + wraps) % 16], at[(i * 5 + wraps * 3) % 16], at[(i * 7 + 5) % 16] / 3, 0));
                    }
                    words.addAll(List.of(Kinds.DRAW, 0, 0, 3, Kinds.CLEAR, 0, 0, 0, 0));
                }
                both.feedAll(words);
                both.run(10);
                for (int wraps = 0; wraps < 16; wraps++) {
                    both.run(20);
                    both.sum(0);
                }
                both.compareState();
            }
        }
    }

    private static List<Integer> opening(int[] program) {
        List<Integer> words = new ArrayList<>(List.of(Kinds.STORE, 600, 40));
        for (int i = 0; i < 40; i++) {
            words.add(0x12345678 * (2 * i + 1) ^ i << 13);
        }
        words.addAll(List.of(Kinds.STORE, 200, program.length));
        Arrays.stream(program).forEach(words::add);
        int[] corners = Rig.handOn(1);
        words.addAll(List.of(Kinds.STORE, 300, corners.length));
        Arrays.stream(corners).forEach(words::add);
        words.addAll(List.of(Kinds.STORE, 400, 12, -ONE, -ONE, 0, ONE, 3 * ONE, -ONE, 0, ONE, -ONE, 3 * ONE, 0, ONE));
        words.addAll(List.of(Kinds.CORNERS_PROGRAM, 300, 2, Kinds.PLACES_PROGRAM, 200, program.length / 3));
        words.addAll(List.of(Kinds.ATTRIBUTE, 0, 400, 4, 4, 0, Kinds.VIEW, 0, 0, 16, 1, 0, 0));
        words.addAll(List.of(Kinds.BORDER, 2, LEAST, MOST, -1, 99999, Kinds.UNIFORM, 20, 16, 16, 16, 16));
        return words;
    }
}
