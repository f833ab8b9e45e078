/** Terms, section 1: the commands, and with which number each is refused. */
final class CommandsTest {
    private static final int FAR = 1 << 20;
    private static final int DEEP = (1 << 24) - 1;
    private static final Integer ANY = null;

    public static void main(String[] args) {
        Checks checks = new Checks("CommandsTest");
        kinds(checks);
        values(checks);
        cut(checks);
        places(checks);
        store(checks);
        uniforms(checks);
        copy(checks);
        refusedTellsNothing(checks);
        work(checks);
        checks.finish();
    }

    private static void kinds(Checks checks) {
        Rig rig = new Rig();
        for (int kind : new int[] {-1, 26, 27, 255, Integer.MIN_VALUE, Integer.MAX_VALUE}) {
            checks.due("kind " + kind, rig.sayJust(kind), 2);
            checks.due("done", rig.machine.about(4), 0);
            checks.due("place", rig.machine.about(2), 0);
        }
        checks.due("FLUSH", rig.sayJust(22), 0);
    }

    /** For each kind the arguments that it may have, as least and most. */
    private static Integer[][] bounds(int kind) {
        switch (kind) {
            case 1: return new Integer[][] {{0, 7}, {ANY}, {0, DEEP}, {0, 255}};
            case 2: return new Integer[][] {{-1023, 1023}, {-1023, 1023}, {1, 1024}, {1, 1024}, {0, DEEP}, {0, DEEP}};
            case 3: return new Integer[][] {{ANY}, {ANY}, {ANY}, {ANY}};
            case 4: return new Integer[][] {{0, 7}, {0, FAR}, {0, 1024}, {0, 4}, {0, 3}};
            case 5: return new Integer[][] {{0, 31}, {ANY}, {ANY}, {ANY}, {ANY}};
            case 9: return new Integer[][] {{0, 3}, {0, FAR}, {0, 10}, {0, 10}, {1, 11}, {0, 7}};
            case 10: return new Integer[][] {{-1, 7}, {0, 1}};
            case 11: return new Integer[][] {{0, 1}, {-1, 7}, {0, 255}, {0, 255}, {0, 255}, {0, 7}, {0, 7}, {0, 7}};
            case 12: return new Integer[][] {{0, 14}, {0, 14}, {0, 14}, {0, 14}, {-1, 4}, {0, 4}};
            case 13: return new Integer[][] {{ANY}};
            case 14: return new Integer[][] {{-1, 15}};
            case 15: return new Integer[][] {{0, 15}};
            case 16: return new Integer[][] {{0, 3}, {0, 1}};
            case 24: return new Integer[][] {{0, 3}, {0, 3}, {0, 3}, {0, 3}};
            case 25: return new Integer[][] {{0, 3}, {ANY}, {ANY}, {ANY}, {ANY}};
            default: return new Integer[0][];
        }
    }

    private static void values(Checks checks) {
        for (int kind = 0; kind < 26; kind++) {
            Integer[][] bounds = bounds(kind);
            Rig rig = new Rig();
            for (int i = 0; i < bounds.length; i++) {
                int[] words = new int[bounds.length + 1];
                words[0] = kind;
                for (int k = 0; k < bounds.length; k++) {
                    words[k + 1] = bounds[k][0] == ANY ? 0 : bounds[k][0];
                }
                int least = bounds[i][0] == ANY ? Integer.MIN_VALUE : bounds[i][0];
                int most = bounds[i][0] == ANY ? Integer.MAX_VALUE : bounds[i][1];
                tryValue(checks, rig, words, i, least, 0);
                tryValue(checks, rig, words, i, most, 0);
                if (bounds[i][0] != ANY) {
                    tryValue(checks, rig, words, i, least - 1, 3);
                    tryValue(checks, rig, words, i, most + 1, 3);
                    tryValue(checks, rig, words, i, Integer.MIN_VALUE, 3);
                    tryValue(checks, rig, words, i, Integer.MAX_VALUE, 3);
                }
            }
        }
        Rig rig = new Rig();
        int[][] wrong = {
            {6, -1, 0, 0}, {6, 32, 0, 0}, {6, 0, -1, 0}, {6, 0, 33, 0}, {6, 0, 0, -1}, {6, 0, 0, FAR + 1},
            {7, -1, 1}, {7, FAR + 1, 1}, {7, 0, 0}, {7, 0, 257}, {8, -1, 1}, {8, FAR + 1, 1}, {8, 0, 0}, {8, 0, 257},
            {17, -1, 0, 0}, {17, 3, 0, 0}, {17, 0, -1, 0}, {17, 0, FAR + 1, 0}, {17, 0, 0, -1}, {17, 0, 0, 4097},
            {18, -1, 0, 0, 0, 0}, {18, 3, 0, 0, 0, 0}, {18, 0, -1, 0, 0, 0}, {18, 0, FAR + 1, 0, 0, 0},
            {18, 0, 0, -1, 0, 0}, {18, 0, 0, 4097, 0, 0}, {18, 0, 0, 0, -1, 0}, {18, 0, 0, 0, 3, 0},
            {19, -1, 1}, {19, 8, 1}, {19, 0, -1}, {19, 0, 2},
            {20, -1, 0, 1, 1, 0, 0}, {20, 128, 0, 1, 1, 0, 0}, {20, 0, -1, 1, 1, 0, 0}, {20, 0, 128, 1, 1, 0, 0},
            {20, 0, 0, 0, 1, 0, 0}, {20, 0, 0, 129, 1, 0, 0}, {20, 0, 0, 1, 0, 0, 0}, {20, 0, 0, 1, 129, 0, 0},
            {20, 0, 0, 1, 1, -1, 0}, {20, 0, 0, 1, 1, FAR + 1, 0}, {20, 0, 0, 1, 1, 0, -1}, {20, 0, 0, 1, 1, 0, 3},
            {21, -1, 0}, {21, FAR + 1, 0}, {21, 0, -1}, {21, 0, Integer.MIN_VALUE}, {23, -1}, {23, FAR + 1}};
        for (int[] words : wrong) {
            checks.due(java.util.Arrays.toString(words), rig.sayJust(words), 3);
        }
        // DRAWs whose values may be so are refused for there are no programs.
        for (int[] words : new int[][] {{17, 2, FAR, 4096}, {18, 2, FAR, 4096, 2, -1}, {17, 0, 0, 0}}) {
            checks.due(java.util.Arrays.toString(words), rig.sayJust(words), 6);
        }
    }

    private static void tryValue(Checks checks, Rig rig, int[] words, int i, int v, int due) {
        int[] tried = words.clone();
        tried[i + 1] = v;
        checks.due(java.util.Arrays.toString(tried), rig.sayJust(tried), due);
    }

    private static void cut(Checks checks) {
        int[] many = {0, 4, 6, 4, 5, 5, 3, 2, 2, 6, 2, 8, 6, 1, 1, 1, 2, 3, 5, 2, 6, 2, 0, 1, 4, 5};
        for (int kind = 0; kind < 26; kind++) {
            Rig rig = new Rig();
            for (int given = 0; given < many[kind]; given++) {
                int[] words = new int[given + 1];
                java.util.Arrays.fill(words, -5000);
                words[0] = kind;
                checks.due("kind " + kind + " with " + given + " arguments", rig.sayJust(words), 1);
            }
            int[] whole = new int[many[kind] + 1];
            java.util.Arrays.fill(whole, Integer.MIN_VALUE);
            whole[0] = kind;
            boolean anyGoes = kind == 0 || kind == 3 || kind == 13 || kind == 22;
            checks.due("kind " + kind + " with all its arguments", rig.sayJust(whole), anyGoes ? 0 : 3);
        }
        Rig rig = new Rig();
        // STORE has as many words as many tells, but not below 0 or above 256.
        checks.due("STORE 2 with 1", rig.sayJust(21, 0, 2, 5), 1);
        checks.due("STORE 2 with 2", rig.sayJust(21, 0, 2, 5, 6), 0);
        checks.due("STORE -3 with none", rig.sayJust(21, 0, -3), 3);
        int[] store = new int[3 + 255];
        store[0] = 21;
        store[2] = 1000000;
        checks.due("STORE 1000000 with 255", rig.sayJust(store), 1);
        store = java.util.Arrays.copyOf(store, 3 + 256);
        checks.due("STORE 1000000 with 256", rig.sayJust(store), 3);
        store[2] = 256;
        checks.due("STORE 256 with 256", rig.sayJust(store), 0);
        // The same in a list, up to memory's end.
        for (int place = 4094; place < 4096; place++) {
            rig.put(place, 21);
            checks.due("STORE in a list at " + place, rig.say(23, place), 1);
            checks.due("it stands there", rig.machine.about(2), place);
        }
        rig.put(4093, 21, 0, 1);
        checks.due("STORE 1 in a list with none", rig.say(23, 4093), 1);
        checks.due("it stands there", rig.machine.about(2), 4093);
        rig.put(4092, 21, 0, 1, 7);
        checks.due("STORE 1 in a list with 1, and nothing behind", rig.say(23, 4092), 1);
        checks.due("it was done", rig.machine.look(0), 7);
        checks.due("and what is behind was cut", rig.machine.about(2), 4096);
    }

    private static void places(Checks checks) {
        Rig rig = new Rig();
        rig.machine.frame(10, 7, 8);
        int[][] refused = {
            {6, 31, 2, 0}, {6, 0, 1, 4093}, {6, 1, 32, 0}, {6, 0, 32, 3969}, {6, 0, 1, FAR},
            {7, 4094, 1}, {8, 4094, 1}, {7, 0, 256 * 6}, {8, 3329, 256}, {7, FAR, 1},
            {20, 10, 0, 1, 1, 0, 0}, {20, 0, 7, 1, 1, 0, 0}, {20, 0, 0, 11, 1, 0, 0}, {20, 0, 0, 1, 8, 0, 0},
            {20, 9, 6, 2, 1, 0, 0}, {20, 0, 0, 10, 7, 4027, 0}, {20, 0, 0, 1, 1, 4096, 0}, {20, 0, 0, 1, 1, FAR, 2},
            {21, 4095, 2, 1, 1}, {21, 4096, 1, 1}, {21, FAR, 1, 1}, {23, 4096}, {23, FAR}};
        for (int[] words : refused) {
            int due = words[0] == 7 && words[2] > 256 ? 3 : 5;
            checks.due(java.util.Arrays.toString(words), rig.sayJust(words), due);
        }
        int[][] done = {
            {6, 31, 1, 0}, {6, 0, 1, 4092}, {6, 0, 32, 3968}, {6, 31, 0, FAR}, {6, 0, 0, FAR}, {7, 4093, 1}, {8, 3328, 256},
            {20, 9, 6, 1, 1, 4095, 0}, {20, 0, 0, 10, 7, 4026, 1}, {21, FAR, 0}, {21, 4096, 0}, {21, 4095, 1, 1}};
        for (int[] words : done) {
            boolean faulty = words[0] == 8;
            checks.due(java.util.Arrays.toString(words), rig.sayJust(words), faulty ? 4 : 0);
        }
        checks.due("a program for corners from word 0 on", rig.sayJust(7, 0, 1), 0);
        checks.due("a program for places from word 0 on", rig.sayJust(8, 0, 1), 0);
        rig.put(4095, 0);
        checks.due("CALL of memory's last word", rig.sayJust(23, 4095), 0);
    }

    private static void store(Checks checks) {
        Rig rig = new Rig();
        // The words as they are ahead of that: the list's STORE moves its own words up by one, then down.
        rig.put(100, 21, 104, 4, 1, 2, 3, 4, 0);
        rig.put(108, 0);
        checks.due("STORE over its own words", rig.say(23, 100), 0);
        int[] due = {21, 104, 4, 1, 1, 2, 3, 4};
        for (int i = 0; i < due.length; i++) {
            checks.due("word " + (100 + i), rig.machine.look(100 + i), due[i]);
        }
        rig.put(200, 21, 202, 4, 9, 8, 7, 6, 0);
        checks.due("STORE below its own words", rig.say(23, 200), 0);
        int[] below = {21, 202, 9, 8, 7, 6, 6, 0};
        for (int i = 0; i < below.length; i++) {
            checks.due("word " + (200 + i), rig.machine.look(200 + i), below[i]);
        }
        // A list that writes the command behind: a word that is changed is so for all that is done behind.
        rig.put(300, 21, 305, 1, 26, 22, 22, 0);
        checks.due("a list that changes itself", rig.say(23, 300), 2);
        checks.due("where it was changed", rig.machine.about(2), 305);
        rig.put(300, 21, 305, 2, 15, 4, 22, 26, 0);
        checks.due("another one", rig.say(23, 300, 1, 1, -1, 0, 0), 0);
        checks.due("MASK 4 was told", rig.machine.at(0, 0, 0), 0xFF0000);
    }

    private static void uniforms(Checks checks) {
        Rig rig = Rig.showing();
        rig.put(10, 111, 222, 333, 444, 555, 666, 777, 888);
        checks.due("UNIFORMS 3 and 4", rig.say(6, 3, 2, 10), 0);
        rig.put(10, 0, 0, 0, 0);
        int[] due = {111, 222, 333, 444, 555, 666, 777, 888};
        for (int i = 0; i < 8; i++) {
            checks.due("uniform " + (3 + i / 4) + ", part " + i % 4, rig.shown(new int[0], Rig.UNIFORM, 3 + i / 4, i % 4), due[i]);
        }
        rig.say(5, 4, -5, -6, -7, Integer.MIN_VALUE, 6, 4, 0, 10);
        checks.due("UNIFORM 4, and UNIFORMS of none", rig.shown(new int[0], Rig.UNIFORM, 4, 3), Integer.MIN_VALUE);
        checks.due("uniform 5 was not told", rig.shown(new int[0], Rig.UNIFORM, 5, 0), 0);
    }

    private static void copy(Checks checks) {
        Rig rig = new Rig();
        rig.machine.frame(4, 3, 8);
        for (int i = 0; i < 12; i++) {
            rig.say(3, i % 4, i / 4, i % 4 + 1, i / 4 + 1, 1, 7, i - 3, 100 + i, 200 + i);
        }
        checks.due("COPY of colours", rig.sayJust(20, 1, 1, 3, 2, 50, 0), 0);
        rig.sayJust(20, 0, 0, 4, 3, 60, 1);
        rig.sayJust(20, 3, 0, 1, 3, 80, 2);
        for (int i = 0; i < 6; i++) {
            checks.due("colour " + i, rig.machine.look(50 + i), 1 + i % 3 + 4 * (1 + i / 3) - 3);
        }
        checks.due("nothing behind", rig.machine.look(56), 0);
        for (int i = 0; i < 12; i++) {
            checks.due("depth " + i, rig.machine.look(60 + i), 100 + i);
        }
        for (int i = 0; i < 3; i++) {
            checks.due("stencil " + i, rig.machine.look(80 + i), 200 + 4 * i + 3);
        }
    }

    private static void refusedTellsNothing(Checks checks) {
        Rig rig = new Rig();
        rig.machine.frame(2, 2, 8);
        checks.due("MASK 1", rig.say(15, 1), 0);
        checks.due("MASK 16", rig.say(15, 16), 3);
        rig.say(1, 1, -1, 0, 0);
        checks.due("MASK 1 stays", rig.machine.at(0, 0, 0), 255);
        checks.due("a CLEAR that is refused", rig.say(1, 7, 0, 0, 256), 3);
        checks.due("clears nothing", rig.machine.at(0, 0, 0), 255);
        checks.due("a COPY that is refused", rig.say(20, 0, 0, 3, 1, 9, 0), 5);
        checks.due("copies nothing", rig.machine.look(9), 0);
        checks.due("an UNIFORM that is cut", rig.sayJust(5, 0, 1, 2, 3), 1);
        Rig draws = new Rig();
        draws.coverAll(2, 2);
        draws.colourOfUniform(0);
        checks.due("a program with a fault", draws.placesProgram(Rig.bare(34, 0)), 4);
        checks.due("the one before stays", draws.draw(), 0);
        draws.put(3000, 99, 99, 99);
        checks.due("later changes of memory don't change it", draws.draw(), 0);
        checks.due("eight places", draws.machine.count(8), 8);
    }

    private static void work(Checks checks) {
        Rig rig = new Rig();
        rig.coverAll(128, 128);
        rig.colourOfUniform(0);
        // Of each triangle: 3 * 2 steps for corners and 16384 * 2 for places; 255 of them are within 2^23.
        int each = 3 * 2 + 16384 * 2;
        int most = (1 << 23) / each;
        checks.due("255 triangles", most, 255);
        rig.say(16, 3, 0);
        checks.due("all that may be", rig.say(17, 1, 0, most + 2), 0);
        checks.due("one more in a draw", rig.say(17, 1, 0, most + 3), 8);
        checks.due("counts for nothing", rig.machine.count(0), most);
        checks.due("done none", rig.machine.about(4), 0);
        checks.due("two draws that are too much together", rig.say(17, 1, 0, 202, 17, 0, 0, 3 * 56), 8);
        checks.due("the first was done", rig.machine.count(0), most + 200);
        checks.due("two draws that may be", rig.say(17, 1, 0, 202, 17, 0, 0, 3 * 55), 0);
        checks.due("its place", rig.machine.about(1), 0);
        checks.due("a draw of no triangle is no work", rig.say(17, 1, 0, 202, 17, 0, 0, 3 * 55, 17, 0, 0, 2), 0);
        rig.machine.frame(1, 1, 8);
        checks.due("a smaller frame is less work", rig.say(17, 1, 0, 4096), 0);
        checks.due("other numbers go before", rig.say(17, 3, 0, 4096), 3);
        rig.machine.frame(128, 128, 8);
        rig.machine.begin(false);
        checks.due("STATE goes before", rig.say(17, 1, 0, 4096), 6);
        justAllWork(checks);
    }

    /** One place, 2 steps for each corner, 4090 for the place: 2048 triangles are 2^23, no more and no less. */
    private static void justAllWork(Checks checks) {
        Rig rig = new Rig();
        rig.coverAll(1, 1);
        int[][] program = new int[27][];
        java.util.Arrays.fill(program, Rig.set(1, Rig.TO_TEMPORARY, 0, 1, Rig.source(Rig.UNIFORM, 0)));
        program[0] = Rig.bare(34, 255);
        program[16] = Rig.bare(35, 0);
        program[25] = Rig.stop();
        checks.due("the program", rig.placesProgram(Rig.join(java.util.Arrays.copyOf(program, 26))), 0);
        rig.say(16, 3, 0);
        checks.due("just 2^23", rig.say(17, 1, 0, 2050), 0);
        checks.due("no more behind it", rig.sayJust(17, 1, 0, 2050, 17, 0, 0, 3), 8);
        checks.due("one triangle more", rig.say(17, 1, 0, 2051), 8);
        checks.due("none more", rig.say(17, 1, 0, 2050, 17, 0, 0, 2), 0);
        // The same with 1365 steps for each corner, and one for the place.
        int[][] corners = new int[21][];
        java.util.Arrays.fill(corners, program[1]);
        corners[0] = Rig.bare(34, 113);
        corners[12] = Rig.bare(35, 0);
        corners[20] = Rig.stop();
        checks.due("the corners' program", rig.cornersProgram(Rig.join(corners)), 0);
        checks.due("the places' program", rig.placesProgram(Rig.stop()), 0);
        checks.due("just 2^23 by corners", rig.say(17, 1, 0, 2050), 0);
        checks.due("one triangle more", rig.say(17, 1, 0, 2051), 8);
        checks.due("an END alone is a program for corners, too", rig.cornersProgram(Rig.stop()), 0);
        checks.due("and a draw can be done with it", rig.say(17, 1, 0, 2051), 0);
    }
}
