/** Promise 5: feed. */
final class FeedTest {
    public static void main(String[] args) {
        Checks checks = new Checks("FeedTest");
        DrawingMachine machine = new DrawingMachine();
        checks.due("the first feed", machine.feed(21, 100, 7, 1, 2), 5);
        checks.due("the second feed", machine.feed(3, 4, 5, 6, 7), 10);
        checks.due("about(6)", machine.about(6), 10);
        checks.due("run(1)", machine.run(1), 1);
        for (int i = 0; i < 7; i++) {
            checks.due("the words are fed in their order", machine.look(100 + i), i + 1);
        }
        checks.due("feeding goes on in a run", machine.feed(21, 100, 1, 50, 0), 15);
        checks.due("run(9)", machine.run(9), 2);
        checks.due("what was fed later is done", machine.look(100), 50);
        checks.due("a run that is over can be fed", machine.feed(21, 100, 1, 60, 0), 20);
        checks.dueThrow("but it doesn't go on", IllegalStateException.class, () -> machine.run(1));
        full(checks);
        checks.finish();
    }

    /** The limit lies beyond 512 calls; it is held all the same. */
    private static void full(Checks checks) {
        DrawingMachine machine = new DrawingMachine();
        for (int i = 1; i <= 819; i++) {
            checks.due("feed " + i, machine.feed(22, 22, 22, 22, i), 5 * i);
        }
        checks.dueThrow("beyond 4096", UnsupportedOperationException.class, () -> machine.feed(1, 2, 3, 4, 5));
        checks.due("nothing was changed", machine.about(6), 4095);
        machine.end(4092);
        checks.dueThrow("4097 words", UnsupportedOperationException.class, () -> machine.feed(1, 2, 3, 4, 5));
        machine.end(4091);
        checks.due("4096 words", machine.feed(22, 22, 22, 22, 22), 4096);
        checks.dueThrow("beyond 4096 words", UnsupportedOperationException.class, () -> machine.feed(1, 2, 3, 4, 5));
    }
}
