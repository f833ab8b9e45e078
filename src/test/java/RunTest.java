/** Promise 8: run. */
final class RunTest {
    public static void main(String[] args) {
        Checks checks = new Checks("RunTest");
        ordinary(checks);
        wrongOnes(checks);
        refused(checks);
        tooLong(checks);
        lists(checks);
        checks.finish();
    }

    private static void ordinary(Checks checks) {
        DrawingMachine machine = new DrawingMachine();
        machine.feed(22, 22, 22, 0, 22);
        checks.due("run(0)", machine.run(0), 0);
        checks.due("nothing came", machine.about(2), -1);
        checks.due("run(2)", machine.run(2), 2);
        checks.due("about(4)", machine.about(4), 2);
        checks.due("not over", machine.about(0), 0);
        checks.due("run(greatest), up to END", machine.run(Integer.MAX_VALUE), 2);
        checks.due("over", machine.about(0), 1);
        checks.due("not refused", machine.about(1), 0);
        checks.due("END's place", machine.about(2), 3);
        machine.begin(true);
        checks.due("run(4) ends with END", machine.run(4), 4);
        checks.due("over at once", machine.about(0), 1);
        DrawingMachine open = new DrawingMachine();
        open.feed(22, 22, 22, 22, 22);
        checks.due("run(5), all words", open.run(5), 5);
        checks.due("not over yet", open.about(0), 0);
        open.feed(22, 22, 22, 22, 22);
        checks.due("it goes on with words fed later", open.run(6), 6);
        checks.due("the end of the words is done as an END", open.about(4), 11);
        checks.due("over", open.about(0), 1);
        open.feed(22, 22, 22, 22, 22);
        checks.dueThrow("words fed later don't go on", IllegalStateException.class, () -> open.run(1));
    }

    private static void wrongOnes(Checks checks) {
        DrawingMachine machine = new DrawingMachine();
        checks.dueThrow("run(-1)", IllegalArgumentException.class, () -> machine.run(-1));
        checks.dueThrow("run(least)", IllegalArgumentException.class, () -> machine.run(Integer.MIN_VALUE));
        checks.due("nothing was changed", machine.about(0), 0);
        machine.run(1);
        checks.dueThrow("run(1) of a run that is over", IllegalStateException.class, () -> machine.run(1));
        checks.dueThrow("run(0) of a run that is over", IllegalStateException.class, () -> machine.run(0));
        checks.dueThrow("of two exceptions the first", IllegalArgumentException.class, () -> machine.run(-1));
        checks.due("still one command", machine.about(4), 1);
    }

    private static void refused(Checks checks) {
        DrawingMachine machine = new DrawingMachine();
        machine.feed(22, 22, 15, 16, 22);
        checks.due("the refused one is not among them", machine.run(10), 2);
        checks.due("over", machine.about(0), 1);
        checks.due("VALUE", machine.about(1), 3);
        checks.due("its place", machine.about(2), 2);
        checks.due("done", machine.about(4), 2);
        checks.dueThrow("over", IllegalStateException.class, () -> machine.run(1));
    }

    private static void tooLong(Checks checks) {
        Rig rig = new Rig();
        // A list of 249 FLUSHes and its END, called eight times, and the CALLs: 2008 commands.
        int[] list = new int[250];
        java.util.Arrays.fill(list, 22);
        list[249] = 0;
        rig.put(0, list);
        rig.feed(23, 0, 23, 0, 23, 0, 23, 0, 23, 0, 23, 0, 23, 0, 23, 0);
        checks.due("run(1999)", rig.machine.run(1999), 1999);
        checks.due("run(1)", rig.machine.run(1), 1);
        checks.due("2000 are done", rig.machine.about(4), 2000);
        checks.due("not over", rig.machine.about(0), 0);
        checks.due("run(1)", rig.machine.run(1), 0);
        checks.due("LONG", rig.machine.about(1), 7);
        checks.due("2000 were done", rig.machine.about(4), 2000);
        checks.due("deep", rig.machine.about(3), 1);
        checks.due("where", rig.machine.about(2), 242);
        // Just 2000: 7 times 251, a CALL of what is from word 9 on, 242, and the end of the words.
        rig.machine.end(0);
        rig.feed(23, 0, 23, 0, 23, 0, 23, 0, 23, 0, 23, 0, 23, 0, 23, 9);
        rig.machine.end(16);
        checks.due("just 2000", rig.machine.run(5000), 2000);
        checks.due("the end of the words was the last", rig.machine.about(1), 0);
        rig.machine.end(16);
        rig.machine.feed(22, 22, 22, 22, 22);
        checks.due("1757 + 242 + 1", rig.machine.run(5000), 2000);
        checks.due("LONG goes before all", rig.machine.about(1), 7);
        checks.due("in the stream", rig.machine.about(3), 0);
        checks.due("where", rig.machine.about(2), 17);
        rig.machine.end(17);
        checks.due("the end of the words is a command, too", rig.machine.run(5000), 2000);
        checks.due("LONG", rig.machine.about(1), 7);
        checks.due("at the end of the words", rig.machine.about(2), 17);
        rig.machine.begin(true);
        checks.due("a new run has 2000 again", rig.machine.run(5000), 2000);
    }

    private static void lists(Checks checks) {
        Rig rig = new Rig();
        // Each list stores its depth and calls the next one; the fourth only stores.
        for (int i = 1; i <= 4; i++) {
            rig.put(100 * i, 21, 10 + i, 1, i, 22);
            rig.put(100 * i + 5, i < 4 ? new int[] {23, 100 * i + 100, 21, 20 + i, 1, i, 0} : new int[] {0});
        }
        checks.due("four deep", rig.sayJust(23, 100, 21, 30, 1, 5), 0);
        checks.due("CALLs, lists, and the end", rig.machine.about(4), 4 + 4 + 4 + 3 + 4 + 1 + 1);
        for (int i = 1; i <= 4; i++) {
            checks.due("list " + i, rig.machine.look(10 + i), i);
            checks.due("list " + i + " behind its CALL", rig.machine.look(20 + i), i < 4 ? i : 0);
        }
        checks.due("behind the CALL of the stream", rig.machine.look(30), 5);
        rig.put(405, 23, 600, 0);
        rig.put(600, 0);
        checks.due("five deep", rig.say(23, 100), 6);
        checks.due("where it stands", rig.machine.about(2), 405);
        checks.due("how deep it stands", rig.machine.about(3), 4);
        rig.put(405, 23, 4096, 0);
        checks.due("PLACE goes before STATE", rig.say(23, 100), 5);
        rig.put(4090, 22, 22, 22, 22, 22, 22);
        checks.due("a list without END", rig.say(23, 4090), 1);
        checks.due("its kind is beyond memory", rig.machine.about(2), 4096);
        checks.due("deep", rig.machine.about(3), 1);
        checks.due("done", rig.machine.about(4), 7);
        rig.put(4094, 15, 3);
        rig.put(4092, 22, 22);
        checks.due("a command up to the last word", rig.say(23, 4092), 1);
        checks.due("it was done", rig.machine.about(4), 4);
        rig.put(4094, 22, 15);
        checks.due("its argument is beyond memory", rig.say(23, 4092), 1);
        checks.due("where", rig.machine.about(2), 4095);
        rig.put(4094, 22, 26);
        checks.due("KIND goes before CUT", rig.say(23, 4092), 2);
    }
}
