/** Promise 2: frame. */
final class FrameTest {
    public static void main(String[] args) {
        Checks checks = new Checks("FrameTest");
        tiles(checks);
        wrongOnes(checks);
        newAndStaying(checks);
        sideCannotBeSeen(checks);
        checks.finish();
    }

    private static void tiles(Checks checks) {
        DrawingMachine machine = new DrawingMachine();
        int[][] due = {
            {1, 1, 8, 1}, {8, 8, 8, 1}, {9, 8, 8, 2}, {8, 9, 8, 2}, {9, 9, 8, 4}, {16, 16, 8, 4}, {128, 128, 8, 256},
            {128, 128, 16, 64}, {128, 128, 32, 16}, {128, 128, 64, 4}, {65, 64, 64, 2}, {127, 1, 32, 4}, {1, 128, 16, 8}};
        for (int[] row : due) {
            String call = "frame(" + row[0] + ", " + row[1] + ", " + row[2] + ")";
            checks.due(call, machine.frame(row[0], row[1], row[2]), row[3]);
            checks.due(call + ", its last place", machine.at(row[0] - 1, row[1] - 1, 0), 0);
            checks.dueThrow(call + ", beyond", IndexOutOfBoundsException.class, () -> machine.at(row[0], 0, 0));
            checks.dueThrow(call + ", below", IndexOutOfBoundsException.class, () -> machine.at(0, row[1], 0));
        }
    }

    private static void wrongOnes(Checks checks) {
        DrawingMachine machine = new DrawingMachine();
        machine.frame(5, 6, 8);
        machine.feed(1, 7, 99, 98, 97);
        machine.run(1);
        int[][] wrong = {
            {0, 5, 8}, {129, 5, 8}, {5, 0, 8}, {5, 129, 8}, {-1, 5, 8}, {5, -1, 8}, {5, 5, 0}, {5, 5, 7}, {5, 5, 9},
            {5, 5, 24}, {5, 5, 128}, {5, 5, -8}, {5, 5, 4}, {Integer.MIN_VALUE, 1, 8}, {Integer.MAX_VALUE, 1, 8}};
        for (int[] row : wrong) {
            checks.dueThrow("frame(" + row[0] + ", " + row[1] + ", " + row[2] + ")", IllegalArgumentException.class,
                () -> machine.frame(row[0], row[1], row[2]));
            checks.due("the frame stays", machine.at(4, 5, 0), 99);
            checks.dueThrow("its size stays", IndexOutOfBoundsException.class, () -> machine.at(5, 0, 0));
        }
    }

    private static void newAndStaying(Checks checks) {
        Rig rig = new Rig();
        DrawingMachine machine = rig.machine;
        machine.frame(128, 128, 8);
        rig.feed(1, 7, -1, 1000, 200, 14, 3, 19, 2, 1, 22, 22);
        machine.run(3);
        machine.frame(20, 20, 8);
        for (int what = 0; what < 3; what++) {
            checks.due("a new frame's sum(" + what + ")", machine.sum(what), 0);
        }
        checks.due("the run stays", machine.about(4), 3);
        checks.due("the place stays", machine.about(2), 7);
        checks.due("the run is not over", machine.about(0), 0);
        checks.due("the open query stays", machine.about(5), 2);
        machine.run(1);
        checks.due("the run goes on where it was", machine.about(2), 10);
        machine.frame(128, 128, 64);
        for (int what = 0; what < 3; what++) {
            checks.due("a larger frame's sum(" + what + ")", machine.sum(what), 0);
        }
    }

    private static void sideCannotBeSeen(Checks checks) {
        int[] sums = new int[4];
        int[] sides = {8, 16, 32, 64};
        for (int i = 0; i < 4; i++) {
            Rig rig = new Rig();
            rig.coverAll(33, 17);
            rig.machine.frame(33, 17, sides[i]);
            rig.placesProgram(Rig.join(Rig.set(1, 0, true, Rig.target(Rig.TO_OUT, 0, Rig.ALL), Rig.source(Rig.IN, 0)), Rig.stop()));
            checks.due("the draw", rig.draw(), 0);
            checks.due("the places", rig.machine.count(8), 33 * 17);
            sums[i] = rig.machine.sum(0);
            checks.due("sum(0) with tiles of " + sides[i], sums[i], sums[0]);
        }
    }
}
