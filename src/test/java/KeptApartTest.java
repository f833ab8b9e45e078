import java.util.ArrayList;
import java.util.Arrays;
import java.util.Collections;
import java.util.List;
import java.util.Random;

/**
 * Terms, sections 1 and 7: what a command told is kept for each kind (by attribute, uniform, unit, side), whatever
 * else is told behind it, and each of its arguments counts. A scene is drawn to which every argument of every
 * telling command makes a difference.
 */
final class KeptApartTest {
    private static final int ONE = Rig.ONE;
    private static final int PICTURES = 200;
    private static final int NUMBERS = 300;

    public static void main(String[] args) {
        Checks checks = new Checks("KeptApartTest");
        checks.sentence("What a command told is KEPT, for each kind, of 4 by attribute, of 5 and 6 by uniform, of 9, 24 and 25 by unit, of 11 by side.");
        List<int[]> told = told();
        String due = drawn(told);
        inAnyOrder(checks, told, due);
        toldOver(checks, told, due);
        eachArgumentCounts(checks, told, due);
        checks.finish();
    }

    private static List<int[]> told() {
        List<int[]> all = new ArrayList<>();
        all.add(new int[] {Kinds.VIEW, -1, 1, 17, 15, 1000, 9000000});
        all.add(new int[] {Kinds.SCISSORS, 1, 1, 14, 15});
        all.add(new int[] {Kinds.ATTRIBUTE, 0, 420, 4, 4, 0});
        for (int n = 1; n < 8; n++) {
            all.add(new int[] {Kinds.ATTRIBUTE, n, NUMBERS + n, 2 + n % 3, 2 + n % 2, n % 4});
        }
        for (int n = 0; n < 32; n++) {
            // Uniform 0's part z, 3, moves the level up.
            all.add(new int[] {Kinds.UNIFORM, n, 211 * n + 5, 307 * n + 7, 401 * n + 3, 503 * n + 13});
        }
        for (int unit = 0; unit < 4; unit++) {
            all.add(new int[] {Kinds.TEXTURE, unit, PICTURES + 5 * unit, 1 + unit % 2, 2 - unit % 2, 2 + unit % 2, (5 * unit) % 8});
            all.add(new int[] {Kinds.MANNER, unit, unit % 2 == 0 ? 3 : unit - 1, unit % 2 == 0 ? unit / 2 + 1 : 3, 3 - unit});
            all.add(new int[] {Kinds.BORDER, unit, 1111 + unit, 2222 + unit, 3333 + unit, 4444 + unit});
        }
        all.add(new int[] {Kinds.DEPTH, 3, 1});
        all.add(new int[] {Kinds.STENCIL, 0, 3, 0x13, 0x1F, 0xF7, 6, 5, 3});
        all.add(new int[] {Kinds.STENCIL, 1, 4, 0x26, 0x3F, 0x7E, 2, 5, 4});
        all.add(new int[] {Kinds.BLEND, 10, 7, 12, 9, 0, 1});
        all.add(new int[] {Kinds.CONSTANT, 0x7A5B3C1D});
        all.add(new int[] {Kinds.LOGIC, -1});
        all.add(new int[] {Kinds.MASK, 15});
        all.add(new int[] {Kinds.FACES, 0, 1});
        return all;
    }

    /** Words of pictures, numbers and places for vertices, and both programs. */
    private static void fillMemory(Rig rig) {
        Random chance = new Random(7);
        int[] words = new int[200];
        for (int i = 0; i < words.length; i++) {
            words[i] = chance.nextInt();
        }
        rig.store(PICTURES, words);
        // Triangles of one side and of the other, at several depths, over and beside one another.
        int[] places = {
            -ONE, -ONE, -ONE / 2, ONE, 3 * ONE, -ONE, ONE / 2, 2 * ONE, -ONE, 3 * ONE, 0, ONE,
            -ONE, -ONE, 0, ONE, -ONE, 3 * ONE, -ONE / 3, ONE, 3 * ONE, -ONE, ONE / 4, ONE,
            -ONE / 2, -ONE, 0, ONE, 2 * ONE, ONE, -ONE / 2, ONE, -ONE, ONE, 0, ONE,
            0, -ONE, -ONE / 3, ONE, -ONE, 2 * ONE, -ONE / 2, ONE, ONE, ONE / 3, 0, ONE};
        rig.store(420, places);
        rig.store(500, Rig.handOn(8));
        rig.store(600, placesProgram());
    }

    /** All varyings, all uniforms and all units go into the colour, of which the lowest sixteen bits are taken. */
    private static int[] placesProgram() {
        List<int[]> all = new ArrayList<>();
        for (int unit = 0; unit < 4; unit++) {
            all.add(Rig.set(5, Rig.TO_TEMPORARY, 1, Rig.ALL, Rig.source(Rig.IN, 0), Rig.part(Rig.UNIFORM, 20 + unit, 3), Rig.source(Rig.IN, 1 + unit)));
            all.add(Rig.set(12, Rig.TO_TEMPORARY, 1, Rig.ALL, Rig.source(Rig.TEMPORARY, 1)));
            all.add(Rig.set(27, Rig.TO_TEMPORARY, 1, 4, Rig.source(Rig.TEMPORARY, 1), Rig.source(Rig.UNIFORM, 0)));
            // Beyond the picture's end in no direction, across alone, and in both.
            for (int doubled = 0; doubled < 3; doubled++) {
                all.add(Rig.set(33, unit, false, Rig.target(Rig.TO_TEMPORARY, 2, Rig.ALL), Rig.source(Rig.TEMPORARY, 1)));
                all.add(Rig.set(2, Rig.TO_TEMPORARY, 0, Rig.ALL, Rig.source(Rig.TEMPORARY, 0), Rig.source(Rig.TEMPORARY, 2)));
                all.add(Rig.set(2, Rig.TO_TEMPORARY, 1, 1 + doubled % 2, Rig.source(Rig.TEMPORARY, 1), Rig.source(Rig.TEMPORARY, 1)));
            }
        }
        for (int n = 1; n < 8; n++) {
            all.add(Rig.set(2, Rig.TO_TEMPORARY, 0, Rig.ALL, Rig.source(Rig.TEMPORARY, 0), Rig.source(Rig.IN, n)));
        }
        for (int n = 0; n < 32; n++) {
            all.add(Rig.set(2, Rig.TO_TEMPORARY, 0, Rig.ALL, Rig.source(Rig.TEMPORARY, 0), Rig.source(Rig.UNIFORM, n)));
        }
        all.add(Rig.set(12, Rig.TO_OUT, 0, Rig.ALL, Rig.source(Rig.TEMPORARY, 0)));
        all.add(Rig.stop());
        return Rig.join(all.toArray(new int[0][]));
    }

    /** What is seen behind all draws, with these commands told in this order. */
    private static String drawn(List<int[]> told) {
        Rig rig = new Rig();
        rig.machine.frame(16, 16, 8);
        fillMemory(rig);
        rig.say(Kinds.CORNERS_PROGRAM, 500, 9, Kinds.PLACES_PROGRAM, 600, placesProgram().length / 3);
        rig.say(Kinds.CLEAR, 7, 0x11335577, 5000000, 0x15);
        rig.say(Rig.join(told.toArray(new int[0][])));
        int refused = rig.machine.about(1);
        rig.say(Kinds.DRAW, 0, 0, 12, Kinds.DRAW, 0, 3, 9, Kinds.CLEAR, 6, 0, 5000000, 0xFB, Kinds.DRAW, 0, 6, 6);
        StringBuilder seen = new StringBuilder("refused " + refused + rig.machine.about(1));
        for (int what = 0; what < 3; what++) {
            seen.append(' ').append(rig.machine.sum(what));
        }
        for (int what = 0; what < 9; what++) {
            seen.append(' ').append(rig.machine.count(what));
        }
        return seen.toString();
    }

    private static void inAnyOrder(Checks checks, List<int[]> told, String due) {
        List<int[]> turned = new ArrayList<>(told);
        Collections.reverse(turned);
        checks.due("told the other way round", drawn(turned), due);
        for (int seed = 0; seed < 20; seed++) {
            List<int[]> mixed = new ArrayList<>(told);
            Collections.shuffle(mixed, new Random(seed));
            checks.due("told in order " + seed, drawn(mixed), due);
        }
    }

    /** Each command once with other arguments, and then as it is: what was told last counts. */
    private static void toldOver(Checks checks, List<int[]> told, String due) {
        for (int i = 0; i < told.size(); i++) {
            List<int[]> twice = new ArrayList<>(told);
            int[] other = told.get(i).clone();
            for (int k = isOneOfSeveral(other[0]) ? 2 : 1; k < other.length; k++) {
                other[k] = another(other[0], k, other[k]);
            }
            twice.add(i, other);
            checks.due("told twice: " + Arrays.toString(told.get(i)), drawn(twice), due);
        }
    }

    private static void eachArgumentCounts(Checks checks, List<int[]> told, String due) {
        for (int i = 0; i < told.size(); i++) {
            for (int k = isOneOfSeveral(told.get(i)[0]) ? 2 : 1; k < told.get(i).length; k++) {
                List<int[]> changed = new ArrayList<>(told);
                int[] other = told.get(i).clone();
                other[k] = another(other[0], k, other[k]);
                changed.set(i, other);
                checks.due(Arrays.toString(other) + " for " + Arrays.toString(told.get(i)) + " is seen", drawn(changed).equals(due) ? 0 : 1, 1);
            }
        }
    }

    private static boolean isOneOfSeveral(int kind) {
        return kind == Kinds.ATTRIBUTE || kind == Kinds.UNIFORM || kind == Kinds.TEXTURE || kind == Kinds.STENCIL || kind == Kinds.MANNER
            || kind == Kinds.BORDER;
    }

    /** Another number that the argument may be. */
    private static int another(int kind, int argument, int v) {
        switch (kind) {
            case Kinds.VIEW:
                return argument >= 5 ? v + 500000 : v + 1;
            case Kinds.UNIFORM:
            case Kinds.BORDER:
                return v + 9999;
            case Kinds.CONSTANT:
                return ~v;
            case Kinds.STENCIL:
                return argument >= 3 && argument <= 5 ? v ^ 0x11 : (v + 1) % 8;
            case Kinds.TEXTURE:
                return argument == 2 || argument == 6 ? v ^ 1 : v + 1;
            default:
                return v > 0 ? v - 1 : v + 1;
        }
    }
}
