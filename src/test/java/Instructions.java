import java.util.ArrayList;
import java.util.Arrays;
import java.util.List;

/** What one instruction makes, and what the check says about a program; both on a machine of their own. */
final class Instructions {
    /** An instruction without a fault, at any place but the last one. */
    static final int[] FINE = Rig.set(1, Rig.TO_TEMPORARY, 15, 1, Rig.source(Rig.IN, 7));

    private Instructions() {
    }

    /** The four parts that a kind makes of three vectors; the words 0 .. 4 and 4094, 4095 of memory are set. */
    static int[] made(int kind, int[] a, int[] b, int[] c) {
        Rig rig = Rig.showing();
        rig.put(0, 100, 101, 102, 103, 104);
        rig.put(4094, 5, 6);
        rig.say(Rig.join(new int[] {Kinds.UNIFORM, 0}, a, new int[] {Kinds.UNIFORM, 1}, b, new int[] {Kinds.UNIFORM, 2}, c));
        int[] sources = {Rig.source(Rig.UNIFORM, 0), Rig.source(Rig.UNIFORM, 1), Rig.source(Rig.UNIFORM, 2)};
        int[] one = Rig.set(kind, Rig.TO_TEMPORARY, 0, Rig.ALL, Arrays.copyOf(sources, Scenes.sourcesOf(kind)));
        int[] made = new int[4];
        for (int p = 0; p < 4; p++) {
            made[p] = rig.shown(one, Rig.TEMPORARY, 0, p);
        }
        return made;
    }

    static void due(Checks checks, int kind, int[] a, int[] b, int[] c, int... due) {
        String what = "kind " + kind + " of " + Arrays.toString(a) + Arrays.toString(b) + Arrays.toString(c);
        checks.due(what, Arrays.toString(made(kind, a, b, c)), Arrays.toString(due));
    }

    /** The program is refused with that fault at that place, or taken with fault 0. */
    static void fault(Checks checks, String what, boolean forPlaces, int fault, int place, int[]... program) {
        Rig rig = new Rig();
        int[] words = Rig.join(program);
        rig.store(1000, words);
        int number = rig.say(forPlaces ? Kinds.PLACES_PROGRAM : Kinds.CORNERS_PROGRAM, 1000, words.length / 3);
        checks.due(what + ": refused", number, fault == 0 ? 0 : Kinds.FAULT);
        checks.due(what + ": fault", rig.machine.about(7), fault);
        checks.due(what + ": place", rig.machine.about(8), fault == 0 ? -1 : place);
    }

    /** The same for one instruction, the second one of three. */
    static void alone(Checks checks, String what, int fault, int... one) {
        fault(checks, what, true, fault, 1, FINE, one, Rig.stop());
    }

    /** How many steps the document counts. */
    static long stepsOf(List<int[]> program) {
        long steps = 0;
        List<Long> times = new ArrayList<>(List.of(1L));
        for (int[] one : program) {
            int kind = one[0] & 63;
            steps += times.get(times.size() - 1);
            if (kind == 34) {
                times.add(times.get(times.size() - 1) * (one[0] >>> 17));
            } else if (kind == 35) {
                times.remove(times.size() - 1);
            }
        }
        return steps;
    }

    /** The program with loops of nothing, instructions and an END behind it: so many steps in all. */
    static int[][] padded(List<int[]> program, int steps) {
        List<int[]> all = new ArrayList<>(program);
        long left = steps - stepsOf(all) - 2;
        while (left > 100) {
            int n = (int) Math.min(255, left - 2);
            all.add(Rig.bare(34, n));
            all.add(Rig.bare(35, 0));
            left -= n + 1;
        }
        for (; left > 0; left--) {
            all.add(FINE);
        }
        all.add(FINE);
        all.add(Rig.stop());
        return all.toArray(new int[0][]);
    }
}
