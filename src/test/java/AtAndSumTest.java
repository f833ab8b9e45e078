/** Promises 10 and 11: at and sum. */
final class AtAndSumTest {
    public static void main(String[] args) {
        Checks checks = new Checks("AtAndSumTest");
        Rig rig = new Rig();
        DrawingMachine machine = rig.machine;
        machine.frame(3, 2, 8);
        int[] colours = {1, -1, 0x7F000000, 77, 0x80000000, 5};
        int[] depths = {16777215, 0, 3, 4, 5, 6};
        int[] stencils = {255, 0, 1, 2, 3, 128};
        int[] sums = new int[3];
        for (int i = 0; i < 6; i++) {
            int x = i % 3;
            int y = i / 3;
            rig.say(3, x, y, x + 1, y + 1, 1, 7, colours[i], depths[i], stencils[i]);
            sums[0] = 31 * sums[0] + colours[i];
            sums[1] = 31 * sums[1] + depths[i];
            sums[2] = 31 * sums[2] + stencils[i];
        }
        for (int i = 0; i < 6; i++) {
            checks.due("colour " + i, machine.at(i % 3, i / 3, 0), colours[i]);
            checks.due("depth " + i, machine.at(i % 3, i / 3, 1), depths[i]);
            checks.due("stencil " + i, machine.at(i % 3, i / 3, 2), stencils[i]);
        }
        for (int what = 0; what < 3; what++) {
            checks.due("sum(" + what + ")", machine.sum(what), sums[what]);
        }
        machine.frame(2, 1, 8);
        rig.say(3, 0, 0, 1, 1, 1, 7, 10, 20, 30, 3, 1, 0, 2, 1, 1, 7, 7, 8, 9);
        checks.due("sum(0) of two places", machine.sum(0), 31 * 10 + 7);
        checks.due("sum(1) of two places", machine.sum(1), 31 * 20 + 8);
        checks.due("sum(2) of two places", machine.sum(2), 31 * 30 + 9);
        wrongOnes(checks, machine);
        checks.finish();
    }

    private static void wrongOnes(Checks checks, DrawingMachine machine) {
        for (int what : new int[] {-1, 3, Integer.MIN_VALUE, Integer.MAX_VALUE}) {
            checks.dueThrow("sum(" + what + ")", IllegalArgumentException.class, () -> machine.sum(what));
            checks.dueThrow("at(0, 0, " + what + ")", IllegalArgumentException.class, () -> machine.at(0, 0, what));
            checks.dueThrow("of two exceptions the first", IllegalArgumentException.class, () -> machine.at(9, -9, what));
        }
        int[][] beside = {{-1, 0}, {0, -1}, {2, 0}, {0, 1}, {1, 1}, {Integer.MAX_VALUE, 0}, {0, Integer.MIN_VALUE}};
        for (int[] place : beside) {
            for (int what = 0; what < 3; what++) {
                int asked = what;
                checks.dueThrow("at(" + place[0] + ", " + place[1] + ", " + what + ")", IndexOutOfBoundsException.class,
                    () -> machine.at(place[0], place[1], asked));
            }
        }
    }
}
