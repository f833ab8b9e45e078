import java.util.Arrays;

/** Terms, section 2: what each kind of instruction makes, and each fault of the check. */
final class ProgramsTest {
    private static final int ONE = Rig.ONE;
    private static final int MOST = Integer.MAX_VALUE;
    private static final int LEAST = Integer.MIN_VALUE;

    public static void main(String[] args) {
        Checks checks = new Checks("ProgramsTest");
        parts(checks);
        wholeVectors(checks);
        sourcesAndTargets(checks);
        loopsAndSkips(checks);
        kills(checks);
        faultsOfOne(checks);
        faultsOfLoops(checks);
        steps(checks);
        checks.finish();
    }

    private static int[] v(int... parts) {
        return parts;
    }

    private static void parts(Checks checks) {
        int[] a = v(3 * ONE, -ONE / 2, MOST, LEAST);
        int[] b = v(ONE / 2, 3, -1, LEAST);
        int[] c = v(7, -8, 9, -10);
        int[][] due = {
            null, {3 * ONE, -ONE / 2, MOST, LEAST},
            {3 * ONE + ONE / 2, -ONE / 2 + 3, MOST - 1, 0},
            {3 * ONE - ONE / 2, -ONE / 2 - 3, LEAST, 0},
            {3 * ONE / 2, -2, -32768, 1 << 30 << 16},
            {3 * ONE / 2 + 7, -10, -32768 + 9, -10},
            null, null,
            {ONE / 2, -ONE / 2, -1, LEAST},
            {3 * ONE, 3, MOST, LEAST},
            {3 * ONE, ONE / 2, MOST, MOST},
            {3 * ONE, -ONE, 0x7FFF0000, LEAST},
            {0, 32768, 65535, 0}};
        for (int kind = 1; kind < due.length; kind++) {
            if (due[kind] != null) {
                Instructions.due(checks, kind, a, b, c, due[kind]);
            }
        }
        comparing(checks);
        choosing(checks);
        bits(checks);
    }

    private static void comparing(Checks checks) {
        int[] a = v(1, 2, LEAST, 5);
        int[] b = v(2, 1, MOST, 5);
        int[] c = v(0, 0, 0, 0);
        Instructions.due(checks, 16, a, b, c, ONE, 0, ONE, 0);
        Instructions.due(checks, 17, a, b, c, 0, ONE, 0, ONE);
        Instructions.due(checks, 18, a, b, c, 0, 0, 0, ONE);
        Instructions.due(checks, 19, a, b, c, ONE, ONE, ONE, 0);
    }

    private static void choosing(Checks checks) {
        Instructions.due(checks, 20, v(0, -1, 1, LEAST), v(1, 2, 3, 4), v(5, 6, 7, 8), 1, 6, 3, 8);
        // 21: the product of a and b - c, + c; b - c wraps.
        Instructions.due(checks, 21, v(0, ONE, ONE / 2, ONE / 4), v(10, 20, 31, -3), v(1, 2, 4, 0), 1, 20, 17, -1);
        Instructions.due(checks, 21, v(ONE, ONE / 2, 1, -ONE), v(MOST, MOST, 1, 5), v(LEAST, -1, 0, 7), MOST, -1 - (1 << 30), 0, 9);
    }

    private static void bits(Checks checks) {
        int[] none = v(0, 0, 0, 0);
        int[] a = v(0x0F0F, -1, 12, LEAST);
        int[] b = v(0x00FF, 5, 10, MOST);
        Instructions.due(checks, 23, a, b, none, 0x000F, 5, 8, 0);
        Instructions.due(checks, 24, a, b, none, 0x0FFF, -1, 14, -1);
        Instructions.due(checks, 25, a, b, none, 0x0FF0, -6, 6, -1);
        Instructions.due(checks, 26, a, b, none, ~0x0F0F, 0, -13, MOST);
        int[] moved = v(-3, 5, LEAST, 1);
        Instructions.due(checks, 27, moved, v(1, 32, 1, 31), none, -6, 5, 0, LEAST);
        Instructions.due(checks, 28, moved, v(1, 33, 31, -31), none, -2, 2, -1, 0);
        Instructions.due(checks, 29, moved, v(1, 34, 31, 32), none, 0x7FFFFFFE, 1, 1, 1);
        Instructions.due(checks, 39, v(-1, ONE, LEAST, MOST), none, none, -1, 1, -32768, 32767);
        Instructions.due(checks, 40, v(-1, 1, 65537, 32768), none, none, -ONE, ONE, ONE, LEAST);
    }

    private static void wholeVectors(Checks checks) {
        int[] none = v(0, 0, 0, 0);
        int[] a = v(2 * ONE, 3 * ONE, -ONE, 1);
        int[] b = v(ONE, ONE / 2, 5, -1);
        int dot3 = 2 * ONE + 3 * ONE / 2 - 5;
        Instructions.due(checks, 6, a, b, none, dot3, dot3, dot3, dot3);
        Instructions.due(checks, 7, a, b, none, dot3 - 1, dot3 - 1, dot3 - 1, dot3 - 1);
        int[][] quotients = {
            {ONE, ONE}, {2 * ONE, ONE / 2}, {3, 1431655765}, {-3, -1431655766}, {1, MOST}, {2, MOST}, {-1, LEAST}, {-2, LEAST},
            {0, MOST}, {LEAST, -2}, {MOST, 2}, {-3 * ONE, -21846}};
        for (int[] row : quotients) {
            Instructions.due(checks, 13, v(row[0], 1, 2, 3), none, none, row[1], row[1], row[1], row[1]);
        }
        int[][] inverseRoots = {
            {0, MOST}, {-1, MOST}, {LEAST, MOST}, {1, 1 << 24}, {ONE, ONE}, {4 * ONE, ONE / 2}, {2, 11863283}, {MOST, 362}, {3, 9686330},
            {ONE / 4, 2 * ONE}};
        for (int[] row : inverseRoots) {
            Instructions.due(checks, 14, v(row[0], 1, 2, 3), none, none, row[1], row[1], row[1], row[1]);
        }
        int[][] roots = {{0, 0}, {-1, 0}, {LEAST, 0}, {1, 256}, {ONE, ONE}, {4 * ONE, 2 * ONE}, {2, 362}, {MOST, 11863283}, {3, 443}};
        for (int[] row : roots) {
            Instructions.due(checks, 15, v(row[0], 1, 2, 3), none, none, row[1], row[1], row[1], row[1]);
        }
        Instructions.due(checks, 22, v(ONE, 2 * ONE, 3 * ONE, 9), v(4, 5, 6, 9), none, 12 - 15, 12 - 6, 5 - 8, 0);
        Instructions.due(checks, 30, v(2 * ONE, 0, 0, 0), none, v(21, 22, 23, 24), 21, 22, 23, 24);
        Instructions.due(checks, 30, v(3 * ONE - 1, 0, 0, 0), none, v(21, 22, 23, 24), 21, 22, 23, 24);
        Instructions.due(checks, 30, v(32 * ONE, 0, 0, 0), none, none, 0, 0, 0, 0);
        Instructions.due(checks, 30, v(-1, 0, 0, 0), none, none, 0, 0, 0, 0);
        Instructions.due(checks, 31, v(ONE, 0, 0, 0), none, none, 101, 102, 103, 104);
        Instructions.due(checks, 31, v(-ONE, 0, 0, 0), none, none, 0, 100, 101, 102);
        Instructions.due(checks, 31, v(4094 * ONE, 0, 0, 0), none, none, 5, 6, 0, 0);
        Instructions.due(checks, 31, v(LEAST, 0, 0, 0), none, none, 0, 0, 0, 0);
        Instructions.due(checks, 31, v(MOST, 0, 0, 0), none, none, 0, 0, 0, 0);
    }

    private static void sourcesAndTargets(Checks checks) {
        Rig rig = Rig.showing();
        rig.say(5, 0, 10, 20, 30, 40, 5, 1, -1, 2 * ONE, ONE, LEAST);
        // All sources are read before the target is set: a vector turned round into itself.
        int[] round = Rig.join(
            Rig.set(1, Rig.TO_TEMPORARY, 3, Rig.ALL, Rig.source(Rig.UNIFORM, 0)),
            Rig.set(1, Rig.TO_TEMPORARY, 3, Rig.ALL, Rig.source(Rig.TEMPORARY, 3, 0x1B)));
        int[] due = {40, 30, 20, 10};
        for (int p = 0; p < 4; p++) {
            checks.due("turned round, part " + p, rig.shown(round, Rig.TEMPORARY, 3, p), due[p]);
        }
        // Only the parts that are set, kept within 0 .. ONE; a source taken less than 0.
        int[] some = Rig.join(
            Rig.set(1, Rig.TO_TEMPORARY, 2, Rig.ALL, Rig.source(Rig.UNIFORM, 0)),
            Rig.set(1, 0, true, Rig.target(Rig.TO_TEMPORARY, 2, 2 + 4 + 8), Rig.source(Rig.UNIFORM, 1)));
        int[] within = {10, ONE, ONE, 0};
        int[] less = Rig.set(1, Rig.TO_TEMPORARY, 2, 1 + 8, Rig.turned(Rig.source(Rig.UNIFORM, 1)));
        int[] turned = {1, 0, 0, LEAST};
        int[] nothing = Rig.set(26, Rig.TO_TEMPORARY, 2, 5, Rig.source(Rig.NOTHING, 0));
        int[] ofNothing = {-1, 0, -1, 0};
        for (int p = 0; p < 4; p++) {
            checks.due("kept within, part " + p, rig.shown(some, Rig.TEMPORARY, 2, p), within[p]);
            checks.due("less than 0, part " + p, rig.shown(less, Rig.TEMPORARY, 2, p), turned[p]);
            checks.due("not nothing, part " + p, rig.shown(nothing, Rig.TEMPORARY, 2, p), ofNothing[p]);
        }
        // Temporaries and outs are 0 first, whatever the last run left.
        rig.shown(Rig.set(1, Rig.TO_TEMPORARY, 13, Rig.ALL, Rig.source(Rig.UNIFORM, 0)), Rig.TEMPORARY, 13, 0);
        checks.due("temporaries are 0 first", rig.shown(new int[0], Rig.TEMPORARY, 13, 0), 0);
        rig.placesProgram(Rig.stop());
        rig.draw();
        checks.due("outs are 0 first", rig.machine.at(0, 0, 0), 0);
        checks.due("the last uniform", rig.shown(new int[0], Rig.UNIFORM, 31, 3), 24);
    }

    private static int[] add(int uniform) {
        return Rig.set(2, Rig.TO_TEMPORARY, 0, Rig.ALL, Rig.source(Rig.TEMPORARY, 0), Rig.source(Rig.UNIFORM, uniform));
    }

    private static void loopsAndSkips(Checks checks) {
        Rig rig = Rig.showing();
        rig.say(5, 0, 1, 1, 1, 1, 5, 1, 1000, 1000, 1000, 1000, 5, 2, 0, 1, 1, 1, 5, 3, -1, 1, 1, 1);
        checks.due("a loop", rig.shown(Rig.join(Rig.bare(34, 7), add(0), Rig.bare(35, 0), add(1)), Rig.TEMPORARY, 0, 0), 1007);
        checks.due("a loop done once", rig.shown(Rig.join(Rig.bare(34, 1), add(0), Rig.bare(35, 0)), Rig.TEMPORARY, 0, 0), 1);
        checks.due("a loop done 255 times", rig.shown(Rig.join(Rig.bare(34, 255), add(0), Rig.bare(35, 0)), Rig.TEMPORARY, 0, 0), 255);
        int[] four = Rig.join(Rig.bare(34, 3), Rig.bare(34, 4), add(1), Rig.bare(34, 5), Rig.bare(34, 6), add(0), Rig.bare(35, 0),
            Rig.bare(35, 0), Rig.bare(35, 0), Rig.bare(35, 0));
        checks.due("loops in loops", rig.shown(four, Rig.TEMPORARY, 0, 0), 12 * 1000 + 360);
        int[] two = Rig.join(Rig.bare(34, 3), add(0), Rig.bare(35, 0), Rig.bare(34, 2), add(1), Rig.bare(35, 0));
        checks.due("a loop behind a loop", rig.shown(two, Rig.TEMPORARY, 0, 0), 2003);
        checks.due("37 leaves out", rig.shown(Rig.join(Rig.bare(37, 2), add(0), add(1)), Rig.TEMPORARY, 0, 0), 1000);
        int[] due = {1001, 1001, 1000, 1000};
        for (int uniform = 0; uniform < 4; uniform++) {
            int[] skip = Rig.join(Rig.bare(36, 2, Rig.source(Rig.UNIFORM, uniform)), add(0), add(1));
            checks.due("36 by uniform " + uniform, rig.shown(skip, Rig.TEMPORARY, 0, 0), due[uniform]);
        }
        int[] goOn = Rig.join(Rig.bare(34, 4), add(0), Rig.bare(37, 4), add(1), Rig.bare(35, 0));
        checks.due("37 to its ENDLOOP", rig.shown(goOn, Rig.TEMPORARY, 0, 0), 4);
        int[] over = Rig.join(Rig.bare(37, 4), Rig.bare(34, 9), add(0), Rig.bare(35, 0), add(1));
        checks.due("37 over a loop", rig.shown(over, Rig.TEMPORARY, 0, 0), 1000);
        int[] to = Rig.join(Rig.bare(37, 2), add(1), Rig.bare(34, 9), add(0), Rig.bare(35, 0));
        checks.due("37 to a LOOP", rig.shown(to, Rig.TEMPORARY, 0, 0), 9);
    }

    private static void kills(Checks checks) {
        Rig rig = Rig.showing();
        int[][] rows = {{0, 0, 0, 0}, {-1, 0, 0, 0}, {5, LEAST, 5, 5}, {0, 0, -1, 0}, {MOST, MOST, MOST, -7}, {1, 2, 3, 4}};
        int killed = 0;
        for (int[] row : rows) {
            rig.say(Rig.join(new int[] {1, 1, 77, 0, 0, 5, 0}, row));
            rig.placesProgram(Rig.join(Rig.bare(38, 0, Rig.source(Rig.UNIFORM, 0)), Rig.stop()));
            rig.draw();
            boolean below = Arrays.stream(row).anyMatch(v -> v < 0);
            killed += below ? 1 : 0;
            checks.due("killed by " + Arrays.toString(row), rig.machine.at(0, 0, 0), below ? 77 : 0);
            checks.due("killed in all", rig.machine.count(7), killed);
        }
    }

    // ---- the check

    private static void faultsOfOne(Checks checks) {
        int source = Rig.source(Rig.TEMPORARY, 1);
        for (int kind = 41; kind < 64; kind++) {
            Instructions.alone(checks, "kind " + kind, 1, kind, -1, -1);
        }
        for (int kind = 1; kind <= 40; kind++) {
            int many = Scenes.sourcesOf(kind);
            int n = kind == 36 || kind == 37 ? 2 : 0;
            boolean targets = Scenes.hasTarget(kind);
            int first = kind | n << 17 | (targets ? 1 << 12 : 0);
            int second = (many > 0 ? source : 0) | (many > 1 ? source << 16 : 0);
            int third = many > 2 ? source : 0;
            if (kind != 34 && kind != 35) {
                Instructions.alone(checks, "kind " + kind, 0, first, second, third);
            }
            if (targets) {
                Instructions.alone(checks, "no part set", 2, kind, second, third);
                Instructions.alone(checks, "file 2", 2, first | 2 << 6, second, third);
                Instructions.alone(checks, "file 3", 2, first | 3 << 6, second, third);
                Instructions.alone(checks, "out 8", 2, first | 1 << 6 | 8 << 8, second, third);
                Instructions.alone(checks, "out 7", 0, first | 1 << 6 | 7 << 8, second, third);
                Instructions.alone(checks, "temporary 15", 0, first | 15 << 8, second, third);
                Instructions.alone(checks, "kept within", 0, first | 1 << 16, second, third);
            } else {
                for (int bit = 6; bit <= 16; bit++) {
                    Instructions.alone(checks, "kind " + kind + " with bit " + bit, 2, first | 1 << bit, second, third);
                }
            }
            for (int k = 0; k < 3; k++) {
                badSources(checks, kind, k, k < many, first, second, third);
            }
            for (int bit = 16; bit < 32; bit += 5) {
                Instructions.alone(checks, "bit " + bit + " above c", 3, first, second, third | 1 << bit);
            }
            if (kind < 32 || kind > 37) {
                Instructions.alone(checks, "kind " + kind + " with a number", 4, first | 1 << 17, second, third);
                Instructions.alone(checks, "kind " + kind + " with the greatest number", 4, first | 32767 << 17, second, third);
            }
        }
        numbers(checks);
        Instructions.alone(checks, "the least of its faults", 2, 1 | 1 << 17, -1, -1);
        Instructions.alone(checks, "the least of its faults but one", 3, 1 | 1 << 12 | 1 << 17, -1, -1);
        Instructions.fault(checks, "the first one that has a fault", true, 4, 0, Rig.bare(34, 0), new int[] {63, 0, 0}, Rig.stop());
        Instructions.fault(checks, "kind 38 for corners", false, 7, 1, Instructions.FINE, Rig.bare(38, 0, source), Rig.stop());
        Instructions.fault(checks, "kind 38 for places", true, 0, -1, Instructions.FINE, Rig.bare(38, 0, source), Rig.stop());
        Instructions.fault(checks, "END alone", false, 0, -1, Rig.stop());
        Instructions.fault(checks, "an END that isn't the last", false, 6, 0, Rig.stop(), Rig.stop());
        Instructions.fault(checks, "the last one isn't an END", false, 6, 1, Instructions.FINE, Instructions.FINE);
        Instructions.fault(checks, "kind 38 for corners, the last one", false, 6, 0, Rig.bare(38, 0, source));
        int[][] full = new int[256][];
        Arrays.fill(full, Instructions.FINE);
        full[255] = Rig.stop();
        Instructions.fault(checks, "256 instructions", false, 0, -1, full);
    }

    private static void badSources(Checks checks, int kind, int k, boolean has, int first, int second, int third) {
        int[][] tried = {
            {Rig.source(Rig.TEMPORARY, 15), 0}, {Rig.source(Rig.TEMPORARY, 16), 3}, {Rig.source(Rig.IN, 7), 0},
            {Rig.source(Rig.IN, 8), 3}, {Rig.source(Rig.UNIFORM, 31), 0}, {Rig.source(Rig.NOTHING, 0), 0},
            {Rig.source(Rig.NOTHING, 1), 3}, {Rig.turned(0), 0}, {1 << 7, 0}};
        for (int[] row : tried) {
            int a = k == 0 ? second & 0xFFFF0000 | row[0] : k == 1 ? second & 0xFFFF | row[0] << 16 : second;
            int c = k == 2 ? row[0] : third;
            if (kind != 34 && kind != 35 || !has) {
                Instructions.alone(checks, "kind " + kind + ", source " + k + " is " + row[0], has ? row[1] : 3, first, a, c);
            }
        }
    }

    private static void numbers(Checks checks) {
        int source = Rig.source(Rig.TEMPORARY, 1);
        for (int n = 0; n < 6; n++) {
            Instructions.alone(checks, "36 to " + n, n == 2 ? 0 : 4, Rig.bare(36, n, source));
            Instructions.alone(checks, "37 to " + n, n == 2 ? 0 : 4, Rig.bare(37, n));
            Instructions.alone(checks, "32 of unit " + n, n <= 3 ? 0 : 4, Rig.set(32, n, false, Rig.target(0, 0, 1), source));
            Instructions.alone(checks, "33 of unit " + n, n <= 3 ? 0 : 4, Rig.set(33, n, false, Rig.target(0, 0, 1), source));
        }
        for (int n : new int[] {0, 1, 255, 256, 32767}) {
            Instructions.fault(checks, "LOOP " + n, true, n == 1 || n == 255 ? 0 : 4, 0, Rig.bare(34, n), Rig.bare(35, 0), Rig.stop());
        }
        Instructions.alone(checks, "ENDLOOP with a number", 4, Rig.bare(35, 1));
        Instructions.fault(checks, "END with a number", true, 4, 0, Rig.bare(0, 1));
    }

    private static void faultsOfLoops(Checks checks) {
        int[] loop = Rig.bare(34, 1);
        int[] endLoop = Rig.bare(35, 0);
        int[] stop = Rig.stop();
        Instructions.alone(checks, "an ENDLOOP without a LOOP", 5, endLoop);
        Instructions.fault(checks, "two ENDLOOPs of one LOOP", true, 5, 2, loop, endLoop, endLoop, stop);
        Instructions.fault(checks, "four loops", true, 0, -1, loop, loop, loop, loop, endLoop, endLoop, endLoop, endLoop, stop);
        Instructions.fault(checks, "a LOOP in four others", true, 5, 4, loop, loop, loop, loop, loop, endLoop, endLoop, endLoop, endLoop, endLoop, stop);
        Instructions.fault(checks, "the last LOOP without an ENDLOOP", true, 5, 1, loop, loop, loop, endLoop, stop);
        Instructions.fault(checks, "the only LOOP without an ENDLOOP", true, 5, 0, loop, loop, endLoop, stop);
        Instructions.fault(checks, "a skip into a loop", true, 5, 0, Rig.bare(37, 2), loop, Instructions.FINE, endLoop, stop);
        Instructions.fault(checks, "a skip out of a loop", true, 5, 2, Instructions.FINE, loop, Rig.bare(37, 4), endLoop, stop);
        Instructions.fault(checks, "a skip to an ENDLOOP from beside", true, 5, 0, Rig.bare(37, 2), loop, endLoop, stop);
        Instructions.fault(checks, "a skip to a LOOP", true, 0, -1, Rig.bare(37, 1), loop, endLoop, stop);
        Instructions.fault(checks, "a skip to its ENDLOOP", true, 0, -1, loop, Rig.bare(37, 2), endLoop, stop);
        Instructions.fault(checks, "a skip to a LOOP in another loop", true, 5, 0, Rig.bare(37, 2), loop, loop, endLoop, endLoop, stop);
        Instructions.fault(checks, "a skip from a loop to one beside it", true, 5, 1, loop, Rig.bare(37, 4), endLoop, loop, endLoop, stop);
        Instructions.fault(checks, "the first skip of two", true, 5, 1, loop, Rig.bare(37, 4), Rig.bare(37, 4), endLoop, stop);
        Instructions.fault(checks, "an open LOOP goes before a skip", true, 5, 1, Rig.bare(37, 2), loop, stop);
    }

    private static void steps(Checks checks) {
        // The LOOPs, what is in them, the ENDLOOPs and the END: 1 + 128 + 128 * 255 * (1 + 1) + 128 + 1.
        int[][] below = {Rig.bare(34, 128), Rig.bare(34, 255), Instructions.FINE, Rig.bare(35, 0), Rig.bare(35, 0), Rig.stop()};
        int had = 1 + 128 + 128 * 255 * 2 + 128 + 1;
        checks.due("two less", had, 65538);
        Instructions.fault(checks, "65538 steps", true, 8, -1, below);
        int[][] just = {Rig.bare(34, 128), Rig.bare(34, 254), Instructions.FINE, Rig.bare(35, 0), Rig.bare(35, 0), Rig.stop()};
        int[][] all = new int[256][];
        System.arraycopy(just, 0, all, 0, 5);
        Arrays.fill(all, 5, 255, Instructions.FINE);
        all[255] = Rig.stop();
        int steps = 1 + 128 + 128 * 254 * 2 + 128 + 251;
        checks.due("steps", steps, 65532);
        Instructions.fault(checks, "65532 steps", true, 0, -1, all);
        all[6] = Rig.bare(34, 5);
        all[7] = Rig.bare(35, 0);
        Instructions.fault(checks, "65536 steps", true, 0, -1, all);
        all[6] = Rig.bare(34, 6);
        Instructions.fault(checks, "65537 steps", true, 8, -1, all);
        int[][] most = new int[256][];
        Arrays.fill(most, Instructions.FINE);
        for (int i = 0; i < 4; i++) {
            most[i] = Rig.bare(34, 255);
            most[251 + i] = Rig.bare(35, 0);
        }
        most[255] = Rig.stop();
        Instructions.fault(checks, "as many steps as can be", false, 8, -1, most);
    }
}
