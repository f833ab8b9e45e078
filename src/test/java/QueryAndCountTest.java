/** Promises 12 and 13: query and count. */
final class QueryAndCountTest {
    public static void main(String[] args) {
        Checks checks = new Checks("QueryAndCountTest");
        DrawingMachine fresh = new DrawingMachine();
        for (int n : new int[] {-1, 8, Integer.MIN_VALUE, Integer.MAX_VALUE}) {
            checks.dueThrow("query(" + n + ")", IllegalArgumentException.class, () -> fresh.query(n));
        }
        for (int n : new int[] {-1, 9, Integer.MIN_VALUE, Integer.MAX_VALUE}) {
            checks.dueThrow("count(" + n + ")", IllegalArgumentException.class, () -> fresh.count(n));
        }
        queries(checks);
        counts(checks);
        checks.finish();
    }

    private static void queries(Checks checks) {
        Rig rig = new Rig();
        DrawingMachine machine = rig.machine;
        rig.coverAll(4, 3);
        rig.colourOfUniform(0);
        int[] draw = {17, 0, 0, 3};
        rig.say(Rig.join(draw, new int[] {19, 5, 1}, draw, draw, new int[] {19, 5, 0}, draw));
        checks.due("two draws of twelve places", machine.query(5), 24);
        checks.due("another query", machine.query(4), 0);
        rig.say(Rig.join(new int[] {19, 4, 1}, draw));
        checks.due("one that is open", machine.query(4), 12);
        machine.begin(false);
        checks.due("it stays when a run begins anew", machine.query(4), 12);
        checks.due("so does the other", machine.query(5), 24);
        rig.coverAll(4, 3);
        rig.colourOfUniform(0);
        rig.say(19, 4, 1);
        checks.due("beginning makes it 0", machine.query(4), 0);
        rig.say(Rig.join(new int[] {3, 1, 0, 3, 1, 19, 0, 1}, draw));
        checks.due("only answers 3 are counted: two places are open", machine.query(0), 2);
        rig.say(Rig.join(new int[] {3, 0, 0, -1, 0, 1, 2, 0, 16777215, 0, 10, 4, 0, 19, 7, 1}, draw));
        checks.due("none passes the depth's test", machine.query(7), 0);
        rig.say(19, 0, 1);
        checks.due("an open one can't begin", rig.sayJust(19, 0, 1, 19, 0, 1), 6);
        checks.due("nor another one", rig.sayJust(19, 0, 1, 19, 1, 1), 6);
        checks.due("one that isn't open can't end", rig.sayJust(19, 0, 0), 6);
        checks.due("another one can't end", rig.sayJust(19, 0, 1, 19, 1, 0), 6);
        checks.due("it can end, and begin again", rig.sayJust(19, 0, 1, 19, 0, 0, 19, 0, 1), 0);
    }

    private static void counts(Checks checks) {
        Rig rig = new Rig();
        DrawingMachine machine = rig.machine;
        rig.coverAll(4, 4);
        // Killed where x is below 1; the stencil fails in row 0, the depth in row 1; row 2 is not open.
        rig.say(5, 0, Rig.ONE, 0, 0, 0);
        rig.placesProgram(Rig.join(
            Rig.set(3, Rig.TO_TEMPORARY, 0, 1, Rig.source(Rig.IN, 0), Rig.source(Rig.UNIFORM, 0)),
            Rig.bare(38, 0, Rig.source(Rig.TEMPORARY, 0)),
            Rig.stop()));
        rig.say(1, 6, 0, 16777215, 0, 3, 0, 0, 4, 1, 1, 4, 0, 0, 9);
        rig.say(3, 0, 1, 4, 2, 1, 2, 0, 0, 0, 3, 0, 0, -1, 0);
        rig.say(11, 0, 2, 0, 255, 0, 0, 0, 0, 10, 1, 1);
        rig.say(3, 0, 0, 4, 3);
        checks.due("the draw", rig.draw(), 0);
        int[] due = {1, 1, 1, 3, 3, 3, 3, 4, 16};
        for (int what = 0; what < 9; what++) {
            checks.due("count(" + what + ")", machine.count(what), due[what]);
        }
        machine.begin(false);
        machine.frame(2, 2, 8);
        for (int what = 0; what < 9; what++) {
            checks.due("count(" + what + ") stays", machine.count(what), due[what]);
        }
        triangles(checks);
    }

    private static void triangles(Checks checks) {
        Rig rig = new Rig();
        rig.coverAll(2, 2);
        rig.colourOfUniform(0);
        // One corner behind the eye: the triangle is cut to a quad, two are made of it.
        rig.put(0, -Rig.ONE, -Rig.ONE, 0, Rig.ONE, Rig.ONE, -Rig.ONE, 0, Rig.ONE, 0, 0, 0, -Rig.ONE);
        rig.say(4, 0, 0, 4, 4, 0, 17, 0, 0, 3);
        checks.due("gone over", rig.machine.count(0), 1);
        checks.due("made", rig.machine.count(1), 2);
        rig.say(16, 3, 0, 17, 0, 0, 3);
        checks.due("gone over", rig.machine.count(0), 2);
        checks.due("made, though left out", rig.machine.count(1), 4);
        int shown = rig.machine.count(2);
        rig.put(0, 0, 0, 0, -1, 0, 0, 0, -1, 0, 0, 0, -1);
        rig.say(16, 0, 0, 17, 0, 0, 3);
        checks.due("gone over, though nothing is left", rig.machine.count(0), 3);
        checks.due("none made", rig.machine.count(1), 4);
        checks.due("none shown", rig.machine.count(2), shown);
        rig.say(17, 1, 0, 7, 17, 2, 0, 6, 17, 0, 0, 8, 17, 1, 0, 2, 17, 2, 0, 0);
        checks.due("five, four, two and none", rig.machine.count(0), 14);
    }
}
