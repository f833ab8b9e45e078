import java.math.BigInteger;
import java.util.Arrays;
import java.util.List;

/** Terms, section 2: each sentence that names an edge, one after the other. */
final class EdgesOfProgramsTest {
    private static final int ONE = Rig.ONE;
    private static final int LEAST = Integer.MIN_VALUE;
    private static final int MOST = Integer.MAX_VALUE;
    private static final int[] NONE = {0, 0, 0, 0};
    private static final int[] ENDS = {LEAST, LEAST + 1, -ONE - 1, -ONE, -1, 0, 1, ONE - 1, ONE, ONE + 1, MOST - 1, MOST};

    public static void main(String[] args) {
        Checks checks = new Checks("EdgesOfProgramsTest");
        sums(checks);
        products(checks);
        quotients(checks);
        zeroFirst(checks);
        sources(checks);
        targets(checks);
        signsAndBits(checks);
        roots(checks);
        comparing(checks);
        moving(checks);
        uniformsAndMemory(checks);
        textures(checks);
        loops(checks);
        skips(checks);
        kills(checks);
        faultOne(checks);
        faultTwo(checks);
        faultThree(checks);
        faultFour(checks);
        faultFive(checks);
        faultsSixAndSeven(checks);
        leastOfItsFaults(checks);
        afterTheInstructions(checks);
        steps(checks);
        checks.finish();
    }

    private static int[] v(int... parts) {
        return parts;
    }

    private static int[] all(int v) {
        return new int[] {v, v, v, v};
    }

    private static void due(Checks checks, int kind, int[] a, int[] b, int[] c, int... due) {
        Instructions.due(checks, kind, a, b, c, due);
    }

    // ---- numbers

    private static void sums(Checks checks) {
        checks.sentence("sums wrap round");
        due(checks, 2, v(MOST, LEAST, MOST, LEAST), v(1, -1, MOST, LEAST), NONE, LEAST, MOST, -2, 0);
        due(checks, 3, v(MOST, LEAST, 0, LEAST), v(-1, 1, LEAST, MOST), NONE, LEAST, MOST, LEAST, 1);
        due(checks, 5, v(MOST, LEAST, MOST, LEAST), all(ONE), v(1, -1, MOST, LEAST), LEAST, MOST, -2, 0);
        due(checks, 6, v(MOST, MOST, MOST, 0), all(ONE), NONE, all(MOST - 2));
        due(checks, 6, v(LEAST, -1, 0, 77 * ONE), all(ONE), NONE, all(MOST));
        due(checks, 7, v(MOST, 1, 0, 0), all(ONE), NONE, all(LEAST));
        due(checks, 7, v(LEAST, 0, 0, -1), all(ONE), NONE, all(MOST));
        due(checks, 21, v(ONE, ONE, 0, 2 * ONE), v(MOST, LEAST, 5, MOST), v(LEAST, MOST, LEAST, 0), MOST, LEAST, LEAST, -2);
        due(checks, 22, v(LEAST, LEAST, 0, 0), v(ONE, -ONE, 0, 0), NONE, 0, 0, 0, 0);
        due(checks, 22, v(MOST, MOST, 0, 0), v(-ONE, ONE, 0, 0), NONE, 0, 0, -2, 0);
        due(checks, 22, v(0, LEAST, 1, 0), v(0, ONE, ONE, 0), NONE, MOST, 0, 0, 0);
    }

    private static int exactProduct(int a, int b) {
        return BigInteger.valueOf(a).multiply(BigInteger.valueOf(b)).shiftRight(16).intValue();
    }

    private static void products(Checks checks) {
        checks.sentence("PRODUCT: a * b / 65536, down, of that the lowest 32 bits.");
        due(checks, 4, v(1, -1, 1, -1), v(1, 1, -1, -1), NONE, 0, -1, -1, 0);
        due(checks, 4, v(MOST, LEAST, MOST, LEAST), v(MOST, LEAST, LEAST, MOST), NONE, -ONE, 0, 32768, 32768);
        due(checks, 4, v(1 << 24, -(1 << 24), 1 << 24, 65535), v(1 << 23, 1 << 23, 1 << 24, 65535), NONE, LEAST, LEAST, 0, 65534);
        due(checks, 4, v(ONE, -3 * ONE, 3, -3), v(MOST, 7, ONE / 2, ONE / 2), NONE, MOST, -21, 1, -2);
        for (int i = 0; i < ENDS.length; i += 4) {
            int[] a = Arrays.copyOfRange(ENDS, i, i + 4);
            for (int b : new int[] {LEAST, -ONE - 1, -1, 3, ONE + 1, MOST}) {
                int[] due = new int[4];
                for (int p = 0; p < 4; p++) {
                    due[p] = exactProduct(a[p], b);
                }
                due(checks, 4, a, all(b), NONE, due);
            }
        }
    }

    private static void quotients(Checks checks) {
        checks.sentence("QUOTIENT: 65536 * a / b, down, then the nearest that an int holds; with b 0: 2^31 - 1 if a is above 0");
        int[][] rows = {
            {0, MOST}, {1, MOST}, {2, MOST}, {3, 1431655765}, {-1, LEAST}, {-2, LEAST}, {-3, -1431655766}, {ONE, ONE}, {-ONE, -ONE},
            {ONE - 1, 65537}, {ONE + 1, 65535}, {-ONE - 1, -65536 + 0}, {MOST, 2}, {LEAST, -2}, {LEAST + 1, -3}, {1 << 30, 4}, {65535 * 3, 21845}};
        for (int[] row : rows) {
            due(checks, 13, v(row[0], 9, 9, 9), NONE, NONE, all(row[1]));
        }
    }

    private static void zeroFirst(Checks checks) {
        checks.sentence("When a program is run, all temporaries and outs are 0 first.");
        Rig rig = Rig.showing();
        rig.say(Kinds.UNIFORM, 0, -5, -6, -7, -8);
        // Each place's run would see what that of the last draw left.
        for (int n : new int[] {0, 1, 13}) {
            rig.shown(Rig.set(1, Rig.TO_TEMPORARY, n, Rig.ALL, Rig.source(Rig.UNIFORM, 0)), Rig.TEMPORARY, n, 0);
            checks.due("temporary " + n, rig.shown(new int[0], Rig.TEMPORARY, n, 0), 0);
        }
        rig.shown(new int[0], Rig.UNIFORM, 0, 0);
        rig.placesProgram(Rig.stop());
        rig.draw();
        checks.due("out 0 of places", rig.machine.at(0, 0, 0), 0);
        // The outs of a corner that a program doesn't set: 0, though the corner ahead of it has set them.
        rig.cornersProgram(Rig.handOn(8));
        rig.shown(new int[0], Rig.IN, 7, 3);
        rig.cornersProgram(Rig.handOn(1));
        for (int p = 0; p < 4; p++) {
            checks.due("out 7 of corners, part " + p, rig.shown(new int[0], Rig.IN, 7, p), 0);
        }
        rig.cornersProgram(Rig.stop());
        int covered = rig.machine.count(1);
        rig.draw();
        checks.due("out 0 of corners: w is 0, nothing is left", rig.machine.count(1), covered);
    }

    private static void sources(Checks checks) {
        checks.sentence("A SOURCE: bits 0 and 1 a file (0 temporaries, 1 ins, 2 uniforms, 3: nothing, all parts 0)");
        Rig rig = vectors();
        int[] nothing = Rig.join(
            Rig.set(1, Rig.TO_TEMPORARY, 1, Rig.ALL, Rig.source(Rig.UNIFORM, 0)),
            Rig.set(1, Rig.TO_TEMPORARY, 1, Rig.ALL, Rig.turned(Rig.source(Rig.NOTHING, 0))));
        int[] last = Rig.join(
            Rig.set(1, Rig.TO_TEMPORARY, 13, Rig.ALL, Rig.source(Rig.UNIFORM, 28)),
            Rig.set(1, Rig.TO_TEMPORARY, 0, Rig.ALL, Rig.source(Rig.TEMPORARY, 13)));
        for (int p = 0; p < 4; p++) {
            checks.due("nothing, part " + p, rig.shown(nothing, Rig.TEMPORARY, 1, p), 0);
            checks.due("temporary 13 of uniform 28, part " + p, rig.shown(last, Rig.TEMPORARY, 0, p), p + 1);
        }
        checks.sentence("15 whether its parts are taken less than 0 (0 - part).");
        Rig turned = vectors();
        int[] less = Rig.set(1, Rig.TO_TEMPORARY, 0, Rig.ALL, Rig.turned(Rig.source(Rig.UNIFORM, 0)));
        int[] due = {-11, 22, LEAST, -MOST};
        for (int p = 0; p < 4; p++) {
            checks.due("less than 0, part " + p, turned.shown(less, Rig.TEMPORARY, 0, p), due[p]);
        }
        checks.sentence("7 to 14 two bits for each part, x first: which part of that vector it is");
        for (int order : new int[] {0x00, 0xFF, 0x1B, 0x93, 0x4E}) {
            Rig ordered = vectors();
            int[] mixed = Rig.set(1, Rig.TO_TEMPORARY, 0, Rig.ALL, Rig.source(Rig.UNIFORM, 28, order));
            for (int p = 0; p < 4; p++) {
                checks.due("order " + order + ", part " + p, ordered.shown(mixed, Rig.TEMPORARY, 0, p), 1 + (order >> 2 * p & 3));
            }
        }
        readFirst(checks);
        apart(checks);
    }

    /** What is set in one file, up to its last vector, is seen in no other one. */
    private static void apart(Checks checks) {
        checks.sentence("There are 16 TEMPORARIES, 8 INS, 8 OUTS, 32 UNIFORMS, all vectors.");
        int[][] all = new int[24][];
        for (int n = 0; n < 24; n++) {
            all[n] = Rig.set(1, n < 16 ? Rig.TO_TEMPORARY : Rig.TO_OUT, n % 16, Rig.ALL, Rig.source(Rig.UNIFORM, 28));
        }
        int[] set = Rig.join(all);
        for (int p = 0; p < 4; p++) {
            Rig rig = vectors();
            int[] middle = {ONE / 2, ONE / 2, 8388607, ONE};
            checks.due("in 0, part " + p, rig.shown(set, Rig.IN, 0, p), middle[p]);
            checks.due("in 7, part " + p, rig.shown(set, Rig.IN, 7, p), 0);
            checks.due("nothing, part " + p, rig.shown(set, Rig.NOTHING, 0, p), 0);
            checks.due("uniform 0, part " + p, rig.shown(set, Rig.UNIFORM, 0, p), new int[] {11, -22, LEAST, MOST}[p]);
            checks.due("uniform 31, part " + p, rig.shown(set, Rig.UNIFORM, 31, p), 8 * p);
            checks.due("temporary 15, never set, part " + p, rig.shown(new int[0], Rig.TEMPORARY, 15, p), 0);
            checks.due("temporary 0, never set, part " + p, rig.shown(new int[0], Rig.TEMPORARY, 0, p), 0);
            checks.due("temporary 15, part " + p, rig.shown(set, Rig.TEMPORARY, 15, p), p + 1);
        }
    }

    private static Rig vectors() {
        Rig rig = Rig.showing();
        rig.say(Kinds.UNIFORM, 0, 11, -22, LEAST, MOST, Kinds.UNIFORM, 28, 1, 2, 3, 4);
        return rig;
    }

    private static void readFirst(Checks checks) {
        checks.sentence("all sources are read before the target is set");
        Rig rig = vectors();
        int[] round = Rig.join(
            Rig.set(1, Rig.TO_TEMPORARY, 0, Rig.ALL, Rig.source(Rig.UNIFORM, 28)),
            Rig.set(2, Rig.TO_TEMPORARY, 0, Rig.ALL, Rig.source(Rig.TEMPORARY, 0, 0x1B), Rig.source(Rig.TEMPORARY, 0, 0x93)));
        int[] added = {4 + 4, 3 + 1, 2 + 2, 1 + 3};
        for (int p = 0; p < 4; p++) {
            checks.due("into itself, part " + p, rig.shown(round, Rig.TEMPORARY, 0, p), added[p]);
        }
    }

    private static void targets(Checks checks) {
        checks.sentence("16 whether the result is KEPT WITHIN 0 .. ONE");
        for (int i = 0; i < ENDS.length; i++) {
            Rig rig = Rig.showing();
            rig.say(Kinds.UNIFORM, 0, ENDS[i], 0, 0, 0);
            int[] within = Rig.set(1, 0, true, Rig.target(Rig.TO_TEMPORARY, 0, 1), Rig.source(Rig.UNIFORM, 0));
            int[] free = Rig.set(1, 0, false, Rig.target(Rig.TO_TEMPORARY, 0, 1), Rig.source(Rig.UNIFORM, 0));
            checks.due(ENDS[i] + " kept within", rig.shown(within, Rig.TEMPORARY, 0, 0), Math.max(0, Math.min(ONE, ENDS[i])));
            checks.due(ENDS[i] + " as it is", rig.shown(free, Rig.TEMPORARY, 0, 0), ENDS[i]);
        }
        checks.sentence("12 to 15 which parts of that are set (bit 12 x, .. 15 w)");
        for (int set : new int[] {1, 2, 4, 8, 5, 10, 7, 14, 15}) {
            Rig parts = Rig.showing();
            parts.say(Kinds.UNIFORM, 0, 1, 2, 3, 4);
            int[] some = Rig.set(1, Rig.TO_TEMPORARY, 0, set, Rig.source(Rig.UNIFORM, 0));
            for (int p = 0; p < 4; p++) {
                checks.due("parts " + set + ", part " + p, parts.shown(some, Rig.TEMPORARY, 0, p), (set >> p & 1) * (p + 1));
            }
        }
    }

    // ---- kinds

    private static void signsAndBits(Checks checks) {
        checks.sentence("8 the lesser of a, b. 9 the greater.");
        int[] a = v(LEAST, MOST, -1, 5);
        int[] b = v(MOST, LEAST, 0, 5);
        due(checks, 8, a, b, NONE, LEAST, LEAST, -1, 5);
        due(checks, 9, a, b, NONE, MOST, MOST, 0, 5);
        checks.sentence("10 a without sign (2^31 - 1 for -2^31).");
        due(checks, 10, v(LEAST, LEAST + 1, -1, 0), NONE, NONE, MOST, MOST, 1, 0);
        due(checks, 10, v(MOST, 1, ONE, -ONE), NONE, NONE, MOST, 1, ONE, ONE);
        checks.sentence("11 a, its lowest sixteen bits 0. 12 these alone.");
        due(checks, 11, v(-1, 65535, LEAST, MOST), NONE, NONE, -ONE, 0, LEAST, 0x7FFF0000);
        due(checks, 12, v(-1, 65536, LEAST, MOST), NONE, NONE, 65535, 0, 0, 65535);
        checks.sentence("Bit by bit: 23 a and b. 24 or. 25 one of them alone. 26 not a.");
        due(checks, 23, v(-1, LEAST, 12, 0), v(MOST, LEAST, 10, -1), NONE, MOST, LEAST, 8, 0);
        due(checks, 24, v(-1, LEAST, 12, 0), v(MOST, LEAST, 10, -1), NONE, -1, LEAST, 14, -1);
        due(checks, 25, v(-1, LEAST, 12, 0), v(MOST, LEAST, 10, -1), NONE, LEAST, 0, 6, -1);
        due(checks, 26, v(-1, LEAST, MOST, 0), NONE, NONE, 0, MOST, LEAST, -1);
    }

    /** The greatest r with r * r * a not above 2^48. */
    private static int inverseRoot(int a) {
        return BigInteger.TWO.pow(48).divide(BigInteger.valueOf(a)).sqrt().intValueExact();
    }

    private static void roots(Checks checks) {
        checks.sentence("14 the greatest r with r * r * a not above 2^48, 2^31 - 1 if a is not above 0.");
        int[] above = {1, 2, 3, 4, 255, 256, ONE - 1, ONE, ONE + 1, 4 * ONE, 1 << 30, (1 << 30) - 1, (1 << 30) + 1, MOST - 1, MOST};
        for (int a : above) {
            due(checks, 14, v(a, -1, -1, -1), NONE, NONE, all(inverseRoot(a)));
        }
        for (int a : new int[] {0, -1, -ONE, LEAST}) {
            due(checks, 14, v(a, 1, 1, 1), NONE, NONE, all(MOST));
        }
        checks.sentence("15 the greatest r with r * r not above 65536 * a, 0 if a is below 0.");
        for (int a : above) {
            due(checks, 15, v(a, -1, -1, -1), NONE, NONE, all(BigInteger.valueOf(65536L * a).sqrt().intValueExact()));
        }
        for (int a : new int[] {0, -1, -ONE, LEAST}) {
            due(checks, 15, v(a, 1, 1, 1), NONE, NONE, NONE);
        }
    }

    private static void comparing(Checks checks) {
        checks.sentence("ONE if (else 0): 16 a is less than b; 17 it isn't; 18 they are alike; 19 not.");
        int[] a = v(LEAST, MOST, 7, 6);
        int[] b = v(MOST, LEAST, 7, 7);
        due(checks, 16, a, b, NONE, ONE, 0, 0, ONE);
        due(checks, 17, a, b, NONE, 0, ONE, ONE, 0);
        due(checks, 18, a, b, NONE, 0, 0, ONE, 0);
        due(checks, 19, a, b, NONE, ONE, ONE, 0, ONE);
        checks.sentence("20 b if a is 0 or more, else c.");
        due(checks, 20, v(0, -1, MOST, LEAST), v(1, 2, 3, 4), v(5, 6, 7, 8), 1, 6, 3, 8);
        checks.sentence("21 PRODUCT of a and (b - c), + c.");
        due(checks, 21, v(0, ONE, -1, 1), v(9, 9, 1, -1), v(4, 4, 0, 0), 4, 9, -1, -1);
        checks.sentence("22 x: PRODUCT of a.y, b.z less that of a.z, b.y; y: of a.z, b.x less a.x, b.z; z: of a.x, b.y less a.y, b.x; w: 0.");
        due(checks, 22, v(ONE, 0, 0, MOST), v(0, ONE, 0, MOST), NONE, 0, 0, ONE, 0);
        due(checks, 22, v(0, ONE, 0, MOST), v(0, 0, ONE, MOST), NONE, ONE, 0, 0, 0);
        due(checks, 22, v(0, 0, ONE, MOST), v(ONE, 0, 0, MOST), NONE, 0, ONE, 0, 0);
        due(checks, 22, v(-1, 1, 1, 0), v(1, 1, -1, 0), NONE, -1, 0, -1, 0);
    }

    private static void moving(Checks checks) {
        checks.sentence("Moved by the lowest five bits of b: 27 a up, 28 down with its sign, 29 down without.");
        int[] by = v(0, 31, 32, -1);
        due(checks, 27, all(3), by, NONE, 3, LEAST, 3, LEAST);
        due(checks, 28, all(-3), by, NONE, -3, -1, -3, -1);
        due(checks, 29, all(-3), by, NONE, -3, 1, -3, 1);
        due(checks, 27, all(MOST), v(1, 33, LEAST, LEAST + 1), NONE, -2, -2, MOST, -2);
        due(checks, 28, all(LEAST), v(1, 31, 63, 64), NONE, LEAST / 2, -1, -1, LEAST);
        due(checks, 29, all(LEAST), v(1, 31, 63, 64), NONE, 1 << 30, 1, 1, LEAST);
        checks.sentence("39 a down by 16 with its sign. 40 a up by 16.");
        due(checks, 39, v(LEAST, -1, 65535, MOST), NONE, NONE, -32768, -1, 0, 32767);
        due(checks, 40, v(32768, -1, 65536, 32767), NONE, NONE, LEAST, -ONE, 0, 0x7FFF0000);
    }

    private static void uniformsAndMemory(Checks checks) {
        checks.sentence("30 uniform k (all 0 if there is none).");
        int[] two = v(21, 22, 23, 24);
        due(checks, 30, v(2 * ONE, 0, 0, 0), NONE, two, two);
        due(checks, 30, v(3 * ONE - 1, 0, 0, 0), NONE, two, two);
        due(checks, 30, v(2 * ONE - 1, 0, 0, 0), all(7), two, all(7));
        due(checks, 30, v(31 * ONE, 0, 0, 0), NONE, two, 0, 8, 16, 24);
        for (int x : new int[] {32 * ONE, 33 * ONE, MOST, -1, -ONE, LEAST}) {
            due(checks, 30, v(x, 2 * ONE, 2 * ONE, 2 * ONE), NONE, two, NONE);
        }
        checks.sentence("31 the words k, k + 1, k + 2, k + 3 of memory (k + 1 .. wrapping round).");
        due(checks, 31, v(0, 0, 0, 0), NONE, NONE, 100, 101, 102, 103);
        due(checks, 31, v(ONE - 1, 0, 0, 0), NONE, NONE, 100, 101, 102, 103);
        due(checks, 31, v(ONE, 0, 0, 0), NONE, NONE, 101, 102, 103, 104);
        checks.sentence("MEMORY is that of section 1 (a word that there isn't is read as 0)");
        due(checks, 31, v(-1, 0, 0, 0), NONE, NONE, 0, 100, 101, 102);
        due(checks, 31, v(-3 * ONE, 0, 0, 0), NONE, NONE, 0, 0, 0, 100);
        due(checks, 31, v(-4 * ONE, 0, 0, 0), NONE, NONE, NONE);
        due(checks, 31, v(4094 * ONE, 0, 0, 0), NONE, NONE, 5, 6, 0, 0);
        due(checks, 31, v(4095 * ONE, 0, 0, 0), NONE, NONE, 6, 0, 0, 0);
        due(checks, 31, v(4096 * ONE, 0, 0, 0), NONE, NONE, NONE);
        due(checks, 31, v(MOST, 0, 0, 0), NONE, NONE, NONE);
        due(checks, 31, v(LEAST, 0, 0, 0), NONE, NONE, NONE);
    }

    private static void textures(Checks checks) {
        checks.sentence("32 texture n at a.x, a.y, level 0 (r, g, b, a as x, y, z, w); 33 at level a.z.");
        Rig rig = Rig.showing();
        rig.put(500, 0x04030201, 0x44332211);
        rig.say(Kinds.TEXTURE, 3, 500, 0, 0, 2, 0, Kinds.UNIFORM, 0, 0, 0, ONE, 0);
        for (int kind = 32; kind <= 33; kind++) {
            int[] one = Rig.set(kind, 3, false, Rig.target(Rig.TO_TEMPORARY, 0, Rig.ALL), Rig.source(Rig.UNIFORM, 0));
            for (int p = 0; p < 4; p++) {
                int due = Math.round(65536 * (kind == 32 ? p + 1 : 0x11 * (p + 1)) / 255f);
                checks.due("kind " + kind + ", part " + p, rig.shown(one, Rig.TEMPORARY, 0, p), due);
            }
        }
        // Level 0 alone, though the filter would mix it with the next one, which is black.
        rig.put(500, -1, 0);
        int[] zero = Rig.set(32, 3, false, Rig.target(Rig.TO_TEMPORARY, 0, Rig.ALL), Rig.source(Rig.UNIFORM, 0));
        for (int filter = 2; filter < 4; filter++) {
            rig.say(Kinds.MANNER, 3, 0, 0, filter);
            checks.due("kind 32, filter " + filter, rig.shown(zero, Rig.TEMPORARY, 0, 0), ONE);
        }
    }

    private static int[] add(int uniform) {
        return Rig.set(2, Rig.TO_TEMPORARY, 0, Rig.ALL, Rig.source(Rig.TEMPORARY, 0), Rig.source(Rig.UNIFORM, uniform));
    }

    private static void loops(Checks checks) {
        checks.sentence("34 LOOP: what is between it and its ENDLOOP is done n times. 35 ENDLOOP.");
        Rig rig = Rig.showing();
        rig.say(Kinds.UNIFORM, 0, 1, 1, 1, 1, Kinds.UNIFORM, 1, 100000, 0, 0, 0);
        for (int n : new int[] {1, 2, 255}) {
            int[] loop = Rig.join(add(1), Rig.bare(34, n), add(0), Rig.bare(35, 0), add(1));
            checks.due(n + " times", rig.shown(loop, Rig.TEMPORARY, 0, 0), 200000 + n);
        }
        int[] empty = Rig.join(Rig.bare(34, 255), Rig.bare(35, 0), add(1));
        checks.due("nothing, 255 times", rig.shown(empty, Rig.TEMPORARY, 0, 0), 100000);
        int[] four = Rig.join(Rig.bare(34, 2), Rig.bare(34, 3), Rig.bare(34, 5), Rig.bare(34, 7), add(0), Rig.bare(35, 0), add(1),
            Rig.bare(35, 0), Rig.bare(35, 0), Rig.bare(35, 0));
        checks.due("four loops", rig.shown(four, Rig.TEMPORARY, 0, 0), 210 + 30 * 100000);
        int[] beside = Rig.join(Rig.bare(34, 3), Rig.bare(34, 2), add(0), Rig.bare(35, 0), Rig.bare(34, 1), add(1), Rig.bare(35, 0),
            Rig.bare(35, 0));
        checks.due("two loops in one", rig.shown(beside, Rig.TEMPORARY, 0, 0), 6 + 300000);
        // All 65,536 steps are done: what comes last is done, too. (128 * 255 times, less than there are steps for.)
        int[] longest = Rig.join(Rig.bare(34, 127), Rig.bare(34, 255), add(0), Rig.bare(35, 0), Rig.bare(35, 0), add(1));
        checks.due("as many as can be", rig.shown(longest, Rig.TEMPORARY, 0, 0), 127 * 255 + 100000);
        stepsAreDone(checks);
    }

    /** A program of just 65,536 steps, whose last instruction but END sets the colour. */
    private static void stepsAreDone(Checks checks) {
        Rig rig = new Rig();
        rig.coverAll(1, 1);
        rig.say(Kinds.UNIFORM, 0, ONE, 0, 0, 0);
        int[][] program = Instructions.padded(List.of(Rig.bare(34, 128), Rig.bare(34, 254), Instructions.FINE, Rig.bare(35, 0), Rig.bare(35, 0)), 65536);
        program[program.length - 2] = Rig.set(1, Rig.TO_OUT, 0, Rig.ALL, Rig.source(Rig.UNIFORM, 0));
        checks.due("the program is read", rig.placesProgram(Rig.join(program)), 0);
        checks.due("the draw is done", rig.draw(), 0);
        checks.due("up to its last instruction", rig.machine.at(0, 0, 0), 255);
    }

    private static void skips(Checks checks) {
        checks.sentence("36 if a.x is not above 0, it goes on with instruction n. 37 it goes on with instruction n.");
        Rig rig = Rig.showing();
        rig.say(Kinds.UNIFORM, 0, 1, 1, 1, 1, Kinds.UNIFORM, 1, 1000, 0, 0, 0);
        for (int x : new int[] {LEAST, -1, 0, 1, MOST}) {
            rig.say(Kinds.UNIFORM, 2, x, x > 0 ? -1 : 1, 1, 1);
            int[] skip = Rig.join(Rig.bare(36, 2, Rig.source(Rig.UNIFORM, 2)), add(0), add(1));
            checks.due("36 by " + x, rig.shown(skip, Rig.TEMPORARY, 0, 0), x > 0 ? 1001 : 1000);
        }
        checks.due("37", rig.shown(Rig.join(Rig.bare(37, 3), add(0), add(0), add(1)), Rig.TEMPORARY, 0, 0), 1000);
        checks.due("37 to the next one", rig.shown(Rig.join(Rig.bare(37, 1), add(0), add(1)), Rig.TEMPORARY, 0, 0), 1001);
        int[] inLoop = Rig.join(Rig.bare(34, 3), add(1), Rig.bare(37, 4), add(0), Rig.bare(35, 0), add(0));
        checks.due("37 to its ENDLOOP", rig.shown(inLoop, Rig.TEMPORARY, 0, 0), 3001);
        int[] past = Rig.join(Rig.bare(37, 4), Rig.bare(34, 3), add(1), Rig.bare(35, 0), Rig.bare(34, 2), add(0), Rig.bare(35, 0));
        checks.due("37 past a loop to a LOOP", rig.shown(past, Rig.TEMPORARY, 0, 0), 2);
    }

    private static void kills(Checks checks) {
        checks.sentence("38 if any part of a is below 0, the program ends here: it is KILLED.");
        Rig rig = Rig.showing();
        int killed = 0;
        int[][] rows = {{0, 0, 0, 0}, {MOST, MOST, MOST, MOST}, {-1, 0, 0, 0}, {0, -1, 0, 0}, {0, 0, LEAST, 0}, {1, 1, 1, -1}};
        for (int[] row : rows) {
            rig.say(Rig.join(new int[] {Kinds.CLEAR, 1, 77, 0, 0, Kinds.UNIFORM, 0}, row));
            rig.placesProgram(Rig.join(Rig.bare(38, 0, Rig.source(Rig.UNIFORM, 0)), Rig.stop()));
            rig.draw();
            boolean below = Arrays.stream(row).anyMatch(v -> v < 0);
            killed += below ? 1 : 0;
            checks.due("killed by " + Arrays.toString(row), rig.machine.at(0, 0, 0), below ? 77 : 0);
            checks.due("killed so far", rig.machine.count(7), killed);
        }
        rig.say(Kinds.UNIFORM, 0, 1, 2, 3, 4);
        rig.placesProgram(Rig.join(Rig.bare(38, 0, Rig.turned(Rig.source(Rig.UNIFORM, 0, 0))), Rig.stop()));
        rig.draw();
        checks.due("killed by parts taken less than 0", rig.machine.count(7), killed + 1);
        rig.placesProgram(Rig.join(Rig.bare(38, 0, Rig.source(Rig.UNIFORM, 0, 0)), Rig.bare(37, 2), Rig.stop()));
        rig.draw();
        checks.due("not killed: it goes on", rig.machine.count(7), killed + 1);
    }

    // ---- the check

    private static void fault(Checks checks, String what, boolean forPlaces, int fault, int place, int[]... program) {
        Instructions.fault(checks, what, forPlaces, fault, place, program);
    }

    private static void alone(Checks checks, String what, int fault, int... one) {
        Instructions.alone(checks, what, fault, one);
    }

    /** An instruction of that kind without a fault, at the place 1 of 3. */
    private static int[] fine(int kind) {
        int one = Rig.source(Rig.TEMPORARY, 1);
        int many = Scenes.sourcesOf(kind);
        int n = kind == 36 || kind == 37 ? 2 : 0;
        int first = kind | n << 17 | (Scenes.hasTarget(kind) ? 1 << 12 : 0);
        return new int[] {first, (many > 0 ? one : 0) | (many > 1 ? one << 16 : 0), many > 2 ? one : 0};
    }

    /** The kinds that can stand alone between two others. */
    private static boolean standsAlone(int kind) {
        return kind != 0 && kind != 34 && kind != 35;
    }

    private static void faultOne(Checks checks) {
        checks.sentence("FAULTS of an instruction: 1 its kind is above 40.");
        for (int kind = 1; kind < 64; kind++) {
            if (kind > 40) {
                alone(checks, "kind " + kind, 1, kind, 0, 0);
            } else if (standsAlone(kind)) {
                alone(checks, "kind " + kind, 0, fine(kind));
            }
        }
        checks.sentence("A program has 1 .. 256 instructions, numbered from 0 on.");
        fault(checks, "one", true, 0, -1, Rig.stop());
        fault(checks, "one with a fault", true, 1, 0, new int[] {41, 0, 0});
        int[][] most = new int[256][];
        Arrays.fill(most, Instructions.FINE);
        most[255] = new int[] {41, 0, 0};
        fault(checks, "256 with a fault", true, 1, 255, most);
        most[255] = Rig.stop();
        fault(checks, "256", true, 0, -1, most);
        Rig rig = new Rig();
        checks.due("none", rig.say(Kinds.PLACES_PROGRAM, 0, 0), Kinds.VALUE);
        checks.due("257", rig.say(Kinds.PLACES_PROGRAM, 0, 257), Kinds.VALUE);
    }

    private static void faultTwo(Checks checks) {
        checks.sentence("2 its target: a file above 1, an out above 7, no part set");
        for (int kind = 1; kind <= 40; kind++) {
            if (!Scenes.hasTarget(kind)) {
                continue;
            }
            int[] fine = fine(kind);
            int first = fine[0];
            int[][] tried = {
                {first & ~(15 << 12), 2}, {first | 2 << 6, 2}, {first | 3 << 6, 2}, {first | 1 << 6 | 8 << 8, 2}, {first | 1 << 6 | 15 << 8, 2},
                {first | 1 << 6 | 7 << 8, 0}, {first | 15 << 8, 0}, {first ^ 9 << 12, 0}, {first | 15 << 12 | 1 << 16, 0}};
            for (int[] row : tried) {
                alone(checks, "kind " + kind + " with the first word " + row[0], row[1], row[0], fine[1], fine[2]);
            }
        }
        checks.sentence("with a kind without a target any of the bits 6 to 16.");
        for (int kind : new int[] {34, 35, 36, 37, 38}) {
            int[] fine = fine(kind);
            for (int bit = 6; bit <= 16; bit++) {
                alone(checks, "kind " + kind + " with bit " + bit, 2, fine[0] | 1 << bit, fine[1], fine[2]);
            }
        }
        for (int bit = 6; bit <= 16; bit++) {
            fault(checks, "END with bit " + bit, false, 2, 1, Instructions.FINE, new int[] {1 << bit, 0, 0});
        }
    }

    private static int[] withSource(int[] fine, int k, int source) {
        switch (k) {
            case 0: return new int[] {fine[0], fine[1] & 0xFFFF0000 | source, fine[2]};
            case 1: return new int[] {fine[0], fine[1] & 0xFFFF | source << 16, fine[2]};
            default: return new int[] {fine[0], fine[1], source};
        }
    }

    private static void faultThree(Checks checks) {
        checks.sentence("3 its sources: an in above 7, a temporary above 15, a number with file 3");
        int[][] tried = {
            {Rig.source(Rig.IN, 7), 0}, {Rig.source(Rig.IN, 8), 3}, {Rig.source(Rig.IN, 31), 3}, {Rig.source(Rig.TEMPORARY, 15), 0},
            {Rig.source(Rig.TEMPORARY, 16), 3}, {Rig.source(Rig.TEMPORARY, 31), 3}, {Rig.source(Rig.NOTHING, 0), 0}, {Rig.source(Rig.NOTHING, 1), 3},
            {Rig.source(Rig.NOTHING, 16), 3}, {Rig.source(Rig.UNIFORM, 31), 0}, {Rig.turned(Rig.source(Rig.NOTHING, 0)), 0}};
        for (int kind = 1; kind <= 40; kind++) {
            for (int k = 0; k < Scenes.sourcesOf(kind); k++) {
                for (int[] row : tried) {
                    alone(checks, "kind " + kind + ", source " + k + " is " + row[0], row[1], withSource(fine(kind), k, row[0]));
                }
            }
        }
        checks.sentence("any bit of a source that its kind doesn't have; any bit above c.");
        for (int kind = 1; kind <= 40; kind++) {
            for (int k = Scenes.sourcesOf(kind); k < 3; k++) {
                for (int bit : new int[] {0, 1, 2, 6, 7, 14, 15}) {
                    alone(checks, "kind " + kind + ", source " + k + " with bit " + bit, 3, withSource(fine(kind), k, 1 << bit));
                }
            }
            int[] fine = fine(kind);
            for (int bit = 16; bit < 32; bit++) {
                alone(checks, "kind " + kind + " with bit " + bit + " above c", 3, fine[0], fine[1], fine[2] | 1 << bit);
            }
        }
        for (int bit = 0; bit < 32; bit++) {
            fault(checks, "END with bit " + bit + " of a, b", true, 3, 0, new int[] {0, 1 << bit, 0});
            fault(checks, "END with bit " + bit + " of c", true, 3, 0, new int[] {0, 0, 1 << bit});
        }
    }

    private static void faultFour(Checks checks) {
        int source = Rig.source(Rig.TEMPORARY, 1);
        checks.sentence("4 its number: for 36 and 37 not above its own place or not below how many there are");
        for (int n : new int[] {0, 1, 2, 3, 4, 5, 6, 255, 256, 32767}) {
            int due = n > 2 && n < 6 ? 0 : 4;
            int[] f = Instructions.FINE;
            fault(checks, "36 at 2 of 6 to " + n, true, due, 2, f, f, Rig.bare(36, n, source), f, f, Rig.stop());
            fault(checks, "37 at 2 of 6 to " + n, false, due, 2, f, f, Rig.bare(37, n), f, f, Rig.stop());
        }
        checks.sentence("for 34 not 1 .. 255");
        for (int n : new int[] {0, 1, 2, 254, 255, 256, 32767}) {
            fault(checks, "LOOP " + n, false, n >= 1 && n <= 255 ? 0 : 4, 0, Rig.bare(34, n), Rig.bare(35, 0), Rig.stop());
        }
        checks.sentence("for 32 and 33 above 3");
        for (int n : new int[] {0, 1, 2, 3, 4, 5, 32767}) {
            for (int kind = 32; kind <= 33; kind++) {
                alone(checks, "kind " + kind + " of unit " + n, n <= 3 ? 0 : 4, Rig.set(kind, n, false, Rig.target(0, 0, 1), source));
            }
        }
        checks.sentence("for others not 0.");
        for (int kind = 1; kind <= 40; kind++) {
            if (kind < 32 || kind > 37 || kind == 35) {
                for (int bit = 17; bit < 32; bit++) {
                    int[] fine = fine(kind);
                    alone(checks, "kind " + kind + " with bit " + bit, 4, fine[0] | 1 << bit, fine[1], fine[2]);
                }
            }
        }
        fault(checks, "END with 1", true, 4, 0, Rig.bare(0, 1));
        fault(checks, "END with 32767", false, 4, 1, Instructions.FINE, Rig.bare(0, 32767));
    }

    private static void faultFive(Checks checks) {
        int[] loop = Rig.bare(34, 1);
        int[] close = Rig.bare(35, 0);
        int[] stop = Rig.stop();
        checks.sentence("5 an ENDLOOP to which there is no LOOP; a LOOP in four others.");
        fault(checks, "an ENDLOOP first", true, 5, 0, close, stop);
        fault(checks, "an ENDLOOP ahead of its LOOP", true, 5, 0, close, loop, stop);
        fault(checks, "two ENDLOOPs for one LOOP", false, 5, 2, loop, close, close, stop);
        fault(checks, "three ENDLOOPs for two LOOPs", false, 5, 4, loop, loop, close, close, close, stop);
        fault(checks, "four in one another", true, 0, -1, loop, loop, loop, loop, close, close, close, close, stop);
        fault(checks, "five in one another", true, 5, 4, loop, loop, loop, loop, loop, close, close, close, close, close, stop);
        fault(checks, "five, but not in one another", true, 0, -1, loop, loop, loop, loop, close, loop, close, close, close, close, stop);
        fault(checks, "a fifth behind them", true, 5, 6, loop, loop, loop, loop, close, loop, loop, close, close, close, close, close, stop);
        fault(checks, "many, one behind the other", true, 0, -1, loop, close, loop, close, loop, close, loop, close, loop, close, stop);
    }

    private static void faultsSixAndSeven(Checks checks) {
        int[] kill = Rig.bare(38, 0, Rig.source(Rig.TEMPORARY, 0));
        int[] f = Instructions.FINE;
        checks.sentence("6 an END that isn't the last instruction, or the last one that isn't an END.");
        fault(checks, "END first", true, 6, 0, Rig.stop(), f, Rig.stop());
        fault(checks, "END twice", true, 6, 1, f, Rig.stop(), Rig.stop());
        fault(checks, "no END", true, 6, 1, f, f);
        fault(checks, "no END, one instruction", false, 6, 0, new int[][] {f});
        fault(checks, "a loop's end as the last one", false, 6, 1, Rig.bare(34, 1), Rig.bare(35, 0));
        fault(checks, "END in a loop", true, 6, 1, Rig.bare(34, 1), Rig.stop(), Rig.bare(35, 0), Rig.stop());
        checks.sentence("7 kind 38 in a program that isn't for places.");
        fault(checks, "for corners", false, 7, 1, f, kill, Rig.stop());
        fault(checks, "for corners, the first one", false, 7, 0, kill, kill, Rig.stop());
        fault(checks, "for places", true, 0, -1, f, kill, Rig.stop());
    }

    /** Instructions with several faults: the least one is told; of several instructions the first one. */
    private static void leastOfItsFaults(Checks checks) {
        checks.sentence("The first instruction that has a fault is told, with the least of its faults");
        int bad = Rig.source(Rig.IN, 8);
        int[] f = Instructions.FINE;
        alone(checks, "1, and all bits", 1, -1, -1, -1);
        alone(checks, "2, 3 and 4", 2, Rig.set(1, 5, false, Rig.target(2, 0, 1), bad));
        alone(checks, "3 and 4", 3, Rig.set(1, 5, false, Rig.target(0, 0, 1), bad));
        alone(checks, "4 and 5: ENDLOOP", 4, Rig.bare(35, 3));
        alone(checks, "2 and 5: ENDLOOP", 2, Rig.bare(35, 0)[0] | 1 << 9, 0, 0);
        alone(checks, "3 and 5: ENDLOOP", 3, Rig.bare(35, 0, 1));
        fault(checks, "5 and 6: ENDLOOP last", true, 5, 1, f, Rig.bare(35, 0));
        int[] loop = Rig.bare(34, 1);
        fault(checks, "5 and 6: a fifth LOOP last", true, 5, 4, loop, loop, loop, loop, loop);
        fault(checks, "4 and 5: a fifth LOOP with 0", true, 4, 4, loop, loop, loop, loop, Rig.bare(34, 0), Rig.stop());
        fault(checks, "3 and 6: END first", true, 3, 0, new int[] {0, 1, 0}, Rig.stop());
        fault(checks, "4 and 6: a skip last", true, 4, 1, f, Rig.bare(37, 2));
        int[] kill = Rig.bare(38, 0, Rig.source(Rig.TEMPORARY, 0));
        fault(checks, "6 and 7: kind 38 last", false, 6, 1, f, kill);
        fault(checks, "4 and 7", false, 4, 0, Rig.bare(38, 1, Rig.source(Rig.TEMPORARY, 0)), Rig.stop());
        fault(checks, "3 and 7", false, 3, 0, Rig.bare(38, 0, bad), Rig.stop());
        fault(checks, "2 and 7", false, 2, 0, new int[] {38 | 1 << 12, 0, 0}, Rig.stop());
        fault(checks, "7 ahead of 1", false, 7, 0, kill, new int[] {63, 0, 0}, Rig.stop());
        fault(checks, "6 ahead of 1", true, 6, 0, Rig.stop(), new int[] {63, 0, 0}, Rig.stop());
        fault(checks, "5 ahead of 2", true, 5, 0, Rig.bare(35, 0), new int[] {1, 0, 0}, Rig.stop());
        fault(checks, "4 ahead of 3", true, 4, 0, Rig.bare(34, 256), Rig.set(1, 0, 0, 1, bad), Rig.stop());
    }

    private static void afterTheInstructions(Checks checks) {
        int[] loop = Rig.bare(34, 1);
        int[] close = Rig.bare(35, 0);
        int[] stop = Rig.stop();
        int[] f = Instructions.FINE;
        checks.sentence("if there is none, fault 5 for the last LOOP without an ENDLOOP");
        fault(checks, "one open", true, 5, 1, f, loop, f, stop);
        fault(checks, "two open", true, 5, 2, loop, f, loop, stop);
        fault(checks, "four open", true, 5, 3, loop, loop, loop, loop, stop);
        fault(checks, "the inner one is closed", true, 5, 0, loop, loop, close, stop);
        fault(checks, "the innermost of three is closed", true, 5, 1, loop, loop, loop, close, stop);
        fault(checks, "a fault of an instruction behind goes before", true, 6, 2, loop, f, f);
        checks.sentence("then fault 5 for the first 36 or 37 that is not in the same loop as the instruction n (a LOOP counts to what is "
            + "around it, an ENDLOOP to its loop)");
        int[] to4 = Rig.bare(36, 4, Rig.source(Rig.TEMPORARY, 0));
        fault(checks, "into a loop", true, 5, 0, Rig.bare(37, 3), f, loop, f, close, stop);
        fault(checks, "out of a loop", true, 5, 1, loop, to4, f, close, f, stop);
        fault(checks, "out of a loop to END", true, 5, 1, loop, Rig.bare(37, 3), close, stop);
        fault(checks, "to a LOOP from around it", true, 0, -1, Rig.bare(37, 2), f, loop, close, stop);
        fault(checks, "to a LOOP in the same loop", true, 0, -1, loop, Rig.bare(37, 2), loop, close, close, stop);
        fault(checks, "to a LOOP from a loop beside it", true, 5, 1, loop, Rig.bare(37, 3), close, loop, close, stop);
        fault(checks, "to an ENDLOOP from its loop", true, 0, -1, loop, Rig.bare(37, 3), f, close, stop);
        fault(checks, "to an ENDLOOP from around it", true, 5, 0, Rig.bare(37, 2), loop, close, stop);
        fault(checks, "to an ENDLOOP from the loop within", true, 5, 2, loop, loop, to4, close, close, stop);
        fault(checks, "over a loop", true, 0, -1, to4, loop, f, close, f, stop);
        fault(checks, "from one loop to another as deep", true, 5, 1, loop, to4, close, loop, f, close, stop);
        fault(checks, "the first of two", true, 5, 2, f, loop, to4, close, Rig.bare(37, 6), loop, f, close, stop);
        fault(checks, "an open LOOP goes before", true, 5, 3, loop, Rig.bare(37, 3), close, loop, stop);
        oneBehindTheOther(checks);
        checks.sentence("then fault 8, place -1, if it has more than 65,536 STEPS.");
        int[] most = Rig.bare(34, 255);
        fault(checks, "too many", true, 8, -1, most, most, f, close, close, stop);
        fault(checks, "a skip goes before", true, 5, 1, most, Rig.bare(37, 6), most, f, close, close, stop);
        fault(checks, "an open LOOP goes before", true, 5, 0, loop, most, most, f, close, close, stop);
        fault(checks, "an instruction goes before", true, 6, 5, most, most, f, close, close, f);
    }

    /** A check begins anew, whatever the program ahead of it left open. */
    private static void oneBehindTheOther(Checks checks) {
        checks.sentence("THE CHECK. A program has 1 .. 256 instructions, numbered from 0 on.");
        int[] loop = Rig.bare(34, 255);
        int[] close = Rig.bare(35, 0);
        int[][] faulty = {
            Rig.join(loop, loop, loop, loop, Rig.stop()), Rig.join(loop, loop, loop, loop, Rig.bare(63, 0), Rig.stop()), Rig.join(loop, Rig.stop(), close)};
        int[] four = Rig.join(Rig.bare(34, 2), Rig.bare(34, 2), Rig.bare(34, 2), Rig.bare(34, 2), close, close, close, close, Rig.stop());
        int[][] fine = {Rig.stop(), four, Rig.join(loop, Rig.bare(34, 254), close, close, Rig.stop())};
        for (int[] first : faulty) {
            for (int[] second : fine) {
                Rig rig = new Rig();
                rig.put(0, first);
                rig.put(100, second);
                checks.due("refused", rig.say(Kinds.PLACES_PROGRAM, 0, first.length / 3), Kinds.FAULT);
                checks.due("not refused behind it", rig.say(Kinds.PLACES_PROGRAM, 100, second.length / 3), 0);
                checks.due("no fault", rig.machine.about(7), 0);
                rig.put(200, close);
                checks.due("an ENDLOOP without a LOOP behind them", rig.say(Kinds.CORNERS_PROGRAM, 200, 1), Kinds.FAULT);
                checks.due("its fault", rig.machine.about(7), 5);
            }
        }
    }

    // ---- steps

    private static void steps(Checks checks) {
        checks.sentence("STEPS: each instruction as often as the loops around it say together (a LOOP as what is around it).");
        int[] close = Rig.bare(35, 0);
        int[] f = Instructions.FINE;
        List<List<int[]>> shapes = List.of(
            List.of(Rig.bare(34, 250), Rig.bare(34, 129), f, close, close),
            List.of(Rig.bare(34, 255), f, Rig.bare(34, 126), f, close, close),
            List.of(Rig.bare(34, 20), Rig.bare(34, 20), Rig.bare(34, 80), f, close, f, close, close),
            List.of(Rig.bare(34, 8), Rig.bare(34, 8), Rig.bare(34, 8), Rig.bare(34, 60), f, close, close, close, close),
            List.of(Rig.bare(34, 3), Rig.bare(34, 40), Rig.bare(34, 255), close, Rig.bare(34, 255), close, close, close));
        for (int i = 0; i < shapes.size(); i++) {
            fault(checks, "shape " + i + " with 65536 steps", i % 2 == 0, 0, -1, Instructions.padded(shapes.get(i), 65536));
            fault(checks, "shape " + i + " with 65537 steps", i % 2 == 0, 8, -1, Instructions.padded(shapes.get(i), 65537));
        }
        int[][] most = new int[256][];
        Arrays.fill(most, f);
        for (int i = 0; i < 4; i++) {
            most[i] = Rig.bare(34, 255);
            most[251 + i] = close;
        }
        most[255] = Rig.stop();
        fault(checks, "as many as can be told", false, 8, -1, most);
    }
}
