/** Promise 9: about. */
final class AboutTest {
    public static void main(String[] args) {
        Checks checks = new Checks("AboutTest");
        DrawingMachine machine = new DrawingMachine();
        for (int what : new int[] {-1, 9, Integer.MIN_VALUE, Integer.MAX_VALUE}) {
            checks.dueThrow("about(" + what + ")", IllegalArgumentException.class, () -> machine.about(what));
        }
        courseOfARun(checks);
        queries(checks);
        faults(checks);
        checks.finish();
    }

    private static void state(Checks checks, String when, DrawingMachine machine, int... due) {
        for (int what = 0; what < due.length; what++) {
            checks.due("about(" + what + ") " + when, machine.about(what), due[what]);
        }
    }

    private static void courseOfARun(Checks checks) {
        Rig rig = new Rig();
        DrawingMachine machine = rig.machine;
        rig.put(500, 22, 23, 600, 0);
        rig.put(600, 15, 7, 0);
        rig.feed(13, 5, 23, 500, 22);
        state(checks, "ahead of all", machine, 0, 0, -1, -1, 0, -1, 5, 0, -1);
        int[][] due = {{0, 0}, {2, 0}, {500, 1}, {501, 1}, {600, 2}, {602, 2}, {503, 1}, {4, 0}};
        for (int i = 0; i < due.length; i++) {
            machine.run(1);
            state(checks, "behind command " + (i + 1), machine, 0, 0, due[i][0], due[i][1], i + 1, -1, 5, 0, -1);
        }
        machine.run(1);
        state(checks, "behind the end of the words", machine, 1, 0, 5, 0, 9, -1, 5, 0, -1);
        machine.end(5);
        machine.word(600, 99);
        machine.run(100);
        state(checks, "behind a refusal in a list", machine, 1, 2, 600, 2, 4, -1, 5, 0, -1);
        machine.end(0);
        state(checks, "behind end(0)", machine, 0, 0, -1, -1, 0, -1, 0, 0, -1);
        machine.run(1);
        state(checks, "behind an empty stream", machine, 1, 0, 0, 0, 1, -1, 0, 0, -1);
        machine.begin(true);
        machine.feed(22, 1, 2, 3, 4);
        machine.run(9);
        state(checks, "behind a command that was cut", machine, 1, 1, 1, 0, 1, -1, 5, 0, -1);
        machine.end(0);
        machine.feed(22, 0, 22, 22, 22);
        machine.run(9);
        state(checks, "behind END", machine, 1, 0, 1, 0, 2, -1, 5, 0, -1);
    }

    private static void queries(Checks checks) {
        DrawingMachine machine = new DrawingMachine();
        machine.feed(19, 7, 1, 19, 7);
        machine.feed(0, 19, 0, 1, 22);
        machine.run(1);
        checks.due("query 7 is open", machine.about(5), 7);
        machine.run(1);
        checks.due("none is open", machine.about(5), -1);
        machine.run(100);
        checks.due("query 0 is open, though the run is over", machine.about(5), 0);
        machine.begin(true);
        checks.due("none is open in a new run", machine.about(5), -1);
        machine.run(1);
        machine.end(3);
        checks.due("none is open behind end", machine.about(5), -1);
    }

    private static void faults(Checks checks) {
        Rig rig = new Rig();
        rig.put(0, Rig.join(Rig.set(1, Rig.TO_TEMPORARY, 0, 0, 0), Rig.stop()));
        checks.due("a program with a fault", rig.say(8, 0, 2), 4);
        state(checks, "behind it", rig.machine, 1, 4, 0, 0, 0, -1, 5, 2, 0);
        checks.due("a command that reads no program: PLACE", rig.say(7, 4095, 1), 5);
        checks.due("the fault stays", rig.machine.about(7), 2);
        checks.due("VALUE", rig.say(7, 3, 257), 3);
        checks.due("the fault stays", rig.machine.about(7), 2);
        checks.due("a program without a fault", rig.say(7, 3, 1), 0);
        checks.due("no fault", rig.machine.about(7), 0);
        checks.due("no place", rig.machine.about(8), -1);
        int[] loops = Rig.join(Rig.bare(34, 255), Rig.bare(34, 255), Rig.bare(34, 2), Rig.bare(35, 0), Rig.bare(35, 0),
            Rig.bare(35, 0), Rig.stop());
        checks.due("a program with too many steps", rig.placesProgram(loops), 4);
        checks.due("fault 8", rig.machine.about(7), 8);
        checks.due("it has no place", rig.machine.about(8), -1);
        rig.machine.begin(false);
        checks.due("the fault stays in a new run", rig.machine.about(7), 8);
        rig.machine.end(0);
        checks.due("and behind end", rig.machine.about(7), 8);
    }
}
