/** Promises 3 and 4: word and look. */
final class WordAndLookTest {
    public static void main(String[] args) {
        Checks checks = new Checks("WordAndLookTest");
        DrawingMachine machine = new DrawingMachine();
        checks.due("word(0, 5)", machine.word(0, 5), 0);
        checks.due("word(0, -7)", machine.word(0, -7), 5);
        checks.due("look(0)", machine.look(0), -7);
        checks.due("word(4095, least)", machine.word(4095, Integer.MIN_VALUE), 0);
        checks.due("look(4095)", machine.look(4095), Integer.MIN_VALUE);
        checks.due("look(4094)", machine.look(4094), 0);
        checks.due("look(1)", machine.look(1), 0);
        for (int place : new int[] {-1, 4096, 4097, Integer.MIN_VALUE, Integer.MAX_VALUE}) {
            checks.dueThrow("word(" + place + ", 1)", IndexOutOfBoundsException.class, () -> machine.word(place, 1));
            checks.dueThrow("look(" + place + ")", IndexOutOfBoundsException.class, () -> machine.look(place));
        }
        checks.due("look(0) stays", machine.look(0), -7);
        checks.due("look(4095) stays", machine.look(4095), Integer.MIN_VALUE);
        machine.begin(false);
        checks.due("look(0) behind begin(false)", machine.look(0), -7);
        machine.feed(21, 0, 2, 11, 12);
        machine.run(1);
        checks.due("look(0) behind STORE", machine.look(0), 11);
        checks.due("word(1, 0) behind STORE", machine.word(1, 0), 12);
        checks.finish();
    }
}
