import java.util.ArrayList;
import java.util.List;

/** A machine with what most tests need: programs written into memory, commands fed and run. */
final class Rig {
    static final int ONE = 65536;
    static final int STRAIGHT = 0xE4;
    static final int TEMPORARY = 0;
    static final int IN = 1;
    static final int UNIFORM = 2;
    static final int NOTHING = 3;
    static final int TO_TEMPORARY = 0;
    static final int TO_OUT = 1;
    static final int ALL = 15;

    private static final int CORNERS_AT = 3900;
    private static final int VERTICES_AT = 3950;
    private static final int PLACES_AT = 3000;

    final DrawingMachine machine = new DrawingMachine();

    // ---- words

    void put(int place, int... words) {
        for (int i = 0; i < words.length; i++) {
            machine.word(place + i, words[i]);
        }
    }

    /** The same by STOREs, which takes fewer calls, and begins the run anew. */
    void store(int place, int... words) {
        for (int i = 0; i < words.length; i += 256) {
            int many = Math.min(256, words.length - i);
            say(join(new int[] {21, place + i, many}, java.util.Arrays.copyOfRange(words, i, i + many)));
        }
    }

    /** Feeds words, and FLUSHes behind them up to a multiple of five: how many words were fed. */
    int feed(int... words) {
        int fed = 0;
        for (int i = 0; i < words.length; i += 5) {
            int[] five = {22, 22, 22, 22, 22};
            System.arraycopy(words, i, five, 0, Math.min(5, words.length - i));
            machine.feed(five[0], five[1], five[2], five[3], five[4]);
            fed += 5;
        }
        return fed;
    }

    /** Makes these words the whole stream and runs it: the number with which a command was refused. */
    int say(int... words) {
        machine.end(0);
        feed(words);
        machine.run(3000);
        return machine.about(1);
    }

    /** The same without FLUSHes behind the words: the stream has these alone. */
    int sayJust(int... words) {
        machine.end(0);
        feed(words);
        machine.end(words.length);
        machine.run(3000);
        return machine.about(1);
    }

    static int[] join(int[]... rows) {
        List<Integer> all = new ArrayList<>();
        for (int[] row : rows) {
            for (int w : row) {
                all.add(w);
            }
        }
        return all.stream().mapToInt(Integer::intValue).toArray();
    }

    // ---- instructions

    static int source(int file, int number) {
        return source(file, number, STRAIGHT);
    }

    static int source(int file, int number, int parts) {
        return file | number << 2 | parts << 7;
    }

    static int turned(int source) {
        return source | 1 << 15;
    }

    /** One part of a vector, four times. */
    static int part(int file, int number, int part) {
        return source(file, number, part * 0x55);
    }

    static int[] set(int kind, int file, int number, int parts, int... sources) {
        return set(kind, 0, false, file << 6 | number << 8 | parts << 12, sources);
    }

    static int[] set(int kind, int n, boolean within, int target, int... sources) {
        int a = sources.length > 0 ? sources[0] : 0;
        int b = sources.length > 1 ? sources[1] : 0;
        int c = sources.length > 2 ? sources[2] : 0;
        return new int[] {kind | target | (within ? 1 << 16 : 0) | n << 17, a | b << 16, c};
    }

    static int target(int file, int number, int parts) {
        return file << 6 | number << 8 | parts << 12;
    }

    static int[] bare(int kind, int n, int... sources) {
        return set(kind, n, false, 0, sources);
    }

    static int[] stop() {
        return new int[3];
    }

    // ---- drawing

    /** A program for corners that hands attributes on as outs, 0 .. many - 1. */
    static int[] handOn(int many) {
        int[][] all = new int[many + 1][];
        for (int i = 0; i < many; i++) {
            all[i] = set(1, TO_OUT, i, ALL, source(IN, i));
        }
        all[many] = stop();
        return join(all);
    }

    int cornersProgram(int[] words) {
        store(CORNERS_AT, words);
        return say(7, CORNERS_AT, words.length / 3);
    }

    int placesProgram(int[] words) {
        store(PLACES_AT, words);
        return say(8, PLACES_AT, words.length / 3);
    }

    /** Makes ready so that draw() covers each place of a frame once, with depth 2^23 - 1 + 1/2, down. */
    void coverAll(int wide, int high) {
        machine.frame(wide, high, 8);
        put(VERTICES_AT, -ONE, -ONE, 0, ONE, 3 * ONE, -ONE, 0, ONE, -ONE, 3 * ONE, 0, ONE);
        cornersProgram(handOn(1));
        say(2, 0, 0, wide, high, 0, (1 << 24) - 1, 4, 0, VERTICES_AT, 4, 4, 0);
    }

    /** A frame of one place, ready to show numbers. */
    static Rig showing() {
        Rig rig = new Rig();
        rig.coverAll(1, 1);
        rig.tellShowing();
        return rig;
    }

    int draw() {
        return say(17, 0, 0, 3);
    }

    /**
     * Instructions that make of one part of a vector a colour that is that very number; they use the
     * uniforms 29 .. 31 (see tellShowing) and the temporaries 14 and 15.
     */
    static int[] show(int file, int number, int part) {
        return join(
            set(1, TO_TEMPORARY, 15, ALL, part(file, number, part)),
            set(29, TO_TEMPORARY, 15, ALL, source(TEMPORARY, 15), source(UNIFORM, 31)),
            set(23, TO_TEMPORARY, 15, ALL, source(TEMPORARY, 15), source(UNIFORM, 30)),
            set(27, TO_TEMPORARY, 14, ALL, source(TEMPORARY, 15), source(UNIFORM, 29)),
            set(2, TO_OUT, 0, ALL, source(TEMPORARY, 15), source(TEMPORARY, 14)),
            stop());
    }

    void tellShowing() {
        say(5, 29, 8, 8, 8, 8, 5, 30, 255, 255, 255, 255, 5, 31, 0, 8, 16, 24);
    }

    /** Draws with a program that ends by showing one part of a vector: that number at the place (0, 0). */
    int shown(int[] program, int file, int number, int part) {
        int number4 = placesProgram(join(program, show(file, number, part)));
        if (number4 != 0) {
            throw new AssertionError("refused with " + number4 + ", fault " + machine.about(7) + " at " + machine.about(8));
        }
        int refused = draw();
        if (refused != 0) {
            throw new AssertionError("the draw was refused with " + refused);
        }
        return machine.at(0, 0, 0);
    }

    /** A program for places that sets the colour to a uniform. */
    void colourOfUniform(int n) {
        placesProgram(join(set(1, TO_OUT, 0, ALL, source(UNIFORM, n)), stop()));
    }
}
