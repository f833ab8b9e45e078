/** Promise 1: a new object. */
final class NewObjectTest {
    public static void main(String[] args) {
        Checks checks = new Checks("NewObjectTest");
        DrawingMachine machine = new DrawingMachine();
        checks.due("NONE", DrawingMachine.NONE, -1);
        for (int place = 0; place < 4096; place += 13) {
            checks.due("look(" + place + ")", machine.look(place), 0);
        }
        checks.due("look(4095)", machine.look(4095), 0);
        for (int what = 0; what < 3; what++) {
            checks.due("at(0, 0, " + what + ")", machine.at(0, 0, what), 0);
            checks.due("sum(" + what + ")", machine.sum(what), 0);
        }
        checks.dueThrow("at(1, 0, 0)", IndexOutOfBoundsException.class, () -> machine.at(1, 0, 0));
        checks.dueThrow("at(0, 1, 0)", IndexOutOfBoundsException.class, () -> machine.at(0, 1, 0));
        int[] about = {0, 0, -1, -1, 0, -1, 0, 0, -1};
        for (int what = 0; what < 9; what++) {
            checks.due("about(" + what + ")", machine.about(what), about[what]);
            checks.due("count(" + what + ")", machine.count(what), 0);
        }
        for (int n = 0; n < 8; n++) {
            checks.due("query(" + n + ")", machine.query(n), 0);
        }
        checks.due("run(0)", machine.run(0), 0);
        checks.due("about(2) behind run(0)", machine.about(2), -1);
        checks.due("run(7) of no words", machine.run(7), 1);
        checks.due("about(0)", machine.about(0), 1);
        checks.due("about(2)", machine.about(2), 0);
        checks.due("about(3)", machine.about(3), 0);
        checks.due("about(4)", machine.about(4), 1);
        noPrograms(checks);
        objectsAreApart(checks);
        checks.finish();
    }

    private static void noPrograms(Checks checks) {
        Rig none = new Rig();
        checks.due("a draw without programs", none.say(17, 0, 0, 3), 6);
        Rig corners = new Rig();
        corners.cornersProgram(Rig.handOn(1));
        checks.due("a draw without a program for places", corners.say(17, 0, 0, 3), 6);
        Rig places = new Rig();
        places.placesProgram(Rig.stop());
        checks.due("a draw without a program for corners", places.say(18, 0, 0, 0, 0, 0), 6);
    }

    private static void objectsAreApart(Checks checks) {
        DrawingMachine one = new DrawingMachine();
        DrawingMachine other = new DrawingMachine();
        one.word(5, 6);
        one.frame(3, 3, 8);
        one.feed(1, 1, 77, 0, 0);
        one.run(9);
        checks.due("look(5) of the other one", other.look(5), 0);
        checks.due("at(0, 0, 0) of the other one", other.at(0, 0, 0), 0);
        checks.due("about(6) of the other one", other.about(6), 0);
    }
}
