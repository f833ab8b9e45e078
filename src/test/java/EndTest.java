/** Promise 6: end. */
final class EndTest {
    public static void main(String[] args) {
        Checks checks = new Checks("EndTest");
        DrawingMachine machine = new DrawingMachine();
        machine.frame(2, 2, 8);
        machine.feed(15, 3, 19, 4, 1);
        machine.feed(21, 9, 1, 8, 22);
        machine.run(3);
        for (int n : new int[] {-1, 11, Integer.MIN_VALUE, Integer.MAX_VALUE}) {
            checks.dueThrow("end(" + n + ")", IllegalArgumentException.class, () -> machine.end(n));
        }
        checks.due("nothing was changed: words", machine.about(6), 10);
        checks.due("nothing was changed: done", machine.about(4), 3);
        checks.due("nothing was changed: query", machine.about(5), 4);
        machine.end(10);
        checks.due("the words stay", machine.about(6), 10);
        begunAnew(checks, machine);
        machine.run(3);
        machine.end(5);
        checks.due("five words are left", machine.about(6), 5);
        begunAnew(checks, machine);
        checks.due("the others are gone", machine.run(100), 3);
        checks.due("it ended there", machine.about(2), 5);
        machine.end(0);
        checks.due("no words are left", machine.about(6), 0);
        begunAnew(checks, machine);
        machine.feed(1, 1, -1, 0, 0);
        machine.run(1);
        checks.due("what was told stays: MASK 3", machine.at(0, 0, 0), 0xFFFF);
        machine.feed(26, 0, 0, 0, 0);
        machine.run(1);
        checks.due("refused", machine.about(1), 2);
        machine.end(5);
        checks.due("no longer refused", machine.about(1), 0);
        programsStay(checks);
        checks.finish();
    }

    private static void begunAnew(Checks checks, DrawingMachine machine) {
        int[] due = {0, 0, -1, -1, 0, -1};
        for (int what = 0; what < 6; what++) {
            checks.due("about(" + what + ") of a run begun anew", machine.about(what), due[what]);
        }
    }

    private static void programsStay(Checks checks) {
        Rig rig = new Rig();
        rig.coverAll(2, 2);
        rig.colourOfUniform(0);
        rig.machine.end(0);
        checks.due("programs stay", rig.draw(), 0);
        rig.machine.end(0);
        checks.due("what queries counted, and what was drawn stays", rig.machine.count(6), 4);
    }
}
