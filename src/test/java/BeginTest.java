/** Promise 7: begin. */
final class BeginTest {
    public static void main(String[] args) {
        Checks checks = new Checks("BeginTest");
        anew(checks);
        kept(checks);
        forgotten(checks);
        checks.finish();
    }

    private static void anew(Checks checks) {
        for (int i = 0; i < 2; i++) {
            boolean keeps = i == 0;
            DrawingMachine machine = new DrawingMachine();
            machine.feed(19, 3, 1, 21, 7);
            machine.feed(1, 5, 99, 22, 22);
            machine.run(9);
            checks.due("refused", machine.about(1), 2);
            checks.due("the query is open still", machine.about(5), 3);
            machine.begin(keeps);
            int[] due = {0, 0, -1, -1, 0, -1, 10, 0, -1};
            for (int what = 0; what < 9; what++) {
                checks.due("about(" + what + ") behind begin(" + keeps + ")", machine.about(what), due[what]);
            }
            machine.word(7, 0);
            checks.due("from the first word on", machine.run(2), 2);
            checks.due("the second command again", machine.look(7), 5);
            checks.due("its place", machine.about(2), 3);
        }
    }

    private static Rig toldAll() {
        Rig rig = new Rig();
        rig.coverAll(4, 4);
        rig.colourOfUniform(0);
        rig.say(5, 0, Rig.ONE, Rig.ONE, Rig.ONE, Rig.ONE, 15, 1, 3, 1, 1, 3, 3);
        rig.say(19, 6, 1, 17, 0, 0, 3, 19, 6, 0);
        return rig;
    }

    private static void kept(Checks checks) {
        Rig rig = toldAll();
        DrawingMachine machine = rig.machine;
        checks.due("drawn in the scissors, red alone", machine.at(1, 1, 0), 255);
        checks.due("not beside", machine.at(0, 0, 0), 0);
        machine.begin(true);
        checks.due("what was drawn stays", machine.at(1, 1, 0), 255);
        checks.due("what queries counted", machine.query(6), 4);
        rig.sayJust(17, 0, 0, 3);
        checks.due("programs and scissors stay", machine.count(6), 8);
        rig.sayJust(1, 1, -1, 0, 0);
        checks.due("the mask stays", machine.at(2, 2, 0), 255);
    }

    private static void forgotten(Checks checks) {
        Rig rig = toldAll();
        DrawingMachine machine = rig.machine;
        machine.begin(false);
        checks.due("what was drawn stays", machine.at(1, 1, 0), 255);
        checks.due("what queries counted", machine.query(6), 4);
        checks.due("what was counted", machine.count(6), 4);
        checks.due("the programs are gone", rig.say(17, 0, 0, 3), 6);
        rig.say(1, 1, -1, 0, 0);
        checks.due("scissors and mask are gone", machine.at(0, 0, 0), -1);
        rig.cornersProgram(Rig.handOn(1));
        checks.due("one program is not enough", rig.say(17, 0, 0, 3), 6);
        rig.colourOfUniform(0);
        // The view is one place, and vertices that no attribute tells all lie in its middle.
        checks.due("a draw", rig.say(17, 0, 0, 3), 0);
        checks.due("the attributes are gone: no area", machine.count(2), 1);
        rig.say(2, 0, 0, 4, 4, 0, 100, 4, 0, 3950, 4, 4, 0, 17, 0, 0, 3);
        checks.due("the uniforms are gone", machine.at(2, 2, 0), 0);
        faultStays(checks);
    }

    private static void faultStays(Checks checks) {
        Rig rig = new Rig();
        rig.placesProgram(Rig.join(Rig.bare(37, 1), Rig.bare(41, 0), Rig.stop()));
        rig.machine.begin(false);
        checks.due("the fault of the last program, whenever it was read", rig.machine.about(7), 1);
        checks.due("its place", rig.machine.about(8), 1);
    }
}
