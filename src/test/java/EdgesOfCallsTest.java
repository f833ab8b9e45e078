import java.util.Arrays;

/** Promises 1 to 13: each sentence that names an edge or an exception, one after the other. */
final class EdgesOfCallsTest {
    private static final int LEAST = Integer.MIN_VALUE;
    private static final int MOST = Integer.MAX_VALUE;
    private static final int[] FAR_AWAY = {LEAST, LEAST + 1, -4096, -2, -1};

    public static void main(String[] args) {
        Checks checks = new Checks("EdgesOfCallsTest");
        newObject(checks);
        frame(checks);
        wordAndLook(checks);
        feed(checks);
        end(checks);
        begin(checks);
        run(checks);
        aboutTheRun(checks);
        aboutProgramsAndQueries(checks);
        atAndSum(checks);
        query(checks);
        count(checks);
        throwing(checks);
        firstException(checks);
        checks.finish();
    }

    private static void state(Checks checks, String when, DrawingMachine machine, int... due) {
        for (int what = 0; what < due.length; what++) {
            checks.due("about(" + what + ") " + when, machine.about(what), due[what]);
        }
    }

    private static void newObject(Checks checks) {
        checks.sentence("Memory is 0; a frame of one place; an empty stream, nothing told, no programs.");
        DrawingMachine machine = new DrawingMachine();
        for (int place = 0; place < 4096; place += 315) {
            checks.due("look(" + place + ")", machine.look(place), 0);
        }
        for (int what = 0; what < 3; what++) {
            checks.due("at(0, 0, " + what + ")", machine.at(0, 0, what), 0);
        }
        checks.dueThrow("at(1, 0, 0)", IndexOutOfBoundsException.class, () -> machine.at(1, 0, 0));
        checks.dueThrow("at(0, 1, 0)", IndexOutOfBoundsException.class, () -> machine.at(0, 1, 0));
        state(checks, "of a new object", machine, 0, 0, -1, -1, 0, -1, 0, 0, -1);
        checks.dueThrow("end(1) of an empty stream", IllegalArgumentException.class, () -> machine.end(1));
        machine.feed(Kinds.DRAW, 0, 0, 0, Kinds.FLUSH);
        checks.due("a DRAW of a new object", machine.run(1), 0);
        checks.due("is refused: no programs", machine.about(1), Kinds.STATE);
    }

    private static void frame(Checks checks) {
        checks.sentence("how many tiles, those that end beyond the frame, too");
        DrawingMachine machine = new DrawingMachine();
        int[] sides = {8, 16, 32, 64};
        for (int side : sides) {
            for (int wide : new int[] {1, side - 1, side, side + 1, 127, 128}) {
                int across = 0;
                for (int x = 0; x < wide; x += side) {
                    across++;
                }
                checks.due("frame(" + wide + ", 1, " + side + ")", machine.frame(wide, 1, side), across);
                checks.due("frame(1, " + wide + ", " + side + ")", machine.frame(1, wide, side), across);
                checks.due("frame(" + wide + ", " + wide + ", " + side + ")", machine.frame(wide, wide, side), across * across);
            }
        }
        checks.sentence("IllegalArgumentException if wide or high is not 1 .. 128, or side not 8, 16, 32 or 64.");
        for (int wrong : new int[] {LEAST, -128, -1, 0, 129, 130, 256, MOST}) {
            checks.dueThrow("wide " + wrong, IllegalArgumentException.class, () -> machine.frame(wrong, 1, 8));
            checks.dueThrow("high " + wrong, IllegalArgumentException.class, () -> machine.frame(1, wrong, 8));
        }
        for (int side = -9; side <= 129; side++) {
            int tried = side;
            boolean isOne = side == 8 || side == 16 || side == 32 || side == 64;
            String thrown = Checks.thrownBy(() -> machine.frame(1, 1, tried));
            checks.due("side " + side, thrown, isOne ? "nothing" : "IllegalArgumentException");
        }
        checks.dueThrow("side least", IllegalArgumentException.class, () -> machine.frame(1, 1, LEAST));
        newFrame(checks);
    }

    private static void newFrame(Checks checks) {
        checks.sentence("A new frame, all 0");
        int[][] sizes = {{5, 4}, {5, 4}, {4, 5}, {1, 1}, {3, 2}, {128, 128}, {127, 128}, {128, 128}};
        Rig rig = new Rig();
        for (int[] size : sizes) {
            rig.machine.frame(size[0], size[1], 8);
            for (int what = 0; what < 3; what++) {
                checks.due("sum(" + what + ") of " + Arrays.toString(size), rig.machine.sum(what), 0);
                checks.due("its last place", rig.machine.at(size[0] - 1, size[1] - 1, what), 0);
            }
            rig.say(Kinds.CLEAR, 7, -1, 9, 9);
            checks.due("a place of it was cleared", rig.machine.at(size[0] - 1, size[1] - 1, 2), 9);
        }
        checks.sentence("the run, the open query and what was told stay");
        Rig told = new Rig();
        told.coverAll(2, 2);
        told.colourOfUniform(0);
        told.machine.end(0);
        told.feed(Kinds.UNIFORM, 0, Rig.ONE, 0, 0, 0, Kinds.QUERY, 3, 1, Kinds.DRAW, 0, 0, 3, Kinds.DRAW, 0, 0, 3);
        told.machine.run(3);
        told.machine.frame(2, 2, 16);
        state(checks, "behind frame", told.machine, 0, 0, 9, 0, 3, 3);
        checks.due("run(1) goes on", told.machine.run(1), 1);
        checks.due("programs, view and uniforms stay", told.machine.at(1, 1, 0), 255);
        checks.due("the query counts on", told.machine.query(3), 8);
        told.machine.run(100);
        told.machine.frame(1, 1, 8);
        checks.due("a run that is over stays so", told.machine.about(0), 1);
    }

    private static void wordAndLook(Checks checks) {
        DrawingMachine machine = new DrawingMachine();
        checks.sentence("A word of memory becomes v: what it was.");
        for (int place : new int[] {0, 1, 4094, 4095}) {
            checks.due("word(" + place + ", least)", machine.word(place, LEAST), 0);
            checks.due("word(" + place + ", most)", machine.word(place, MOST), LEAST);
            checks.due("word(" + place + ", place)", machine.word(place, place), MOST);
        }
        checks.sentence("A word of memory.");
        for (int place : new int[] {0, 1, 4094, 4095}) {
            checks.due("look(" + place + ")", machine.look(place), place);
        }
        checks.sentence("IndexOutOfBoundsException if there is none such.");
        for (int place : new int[] {LEAST, -4096, -1, 4096, 4097, 8192, MOST}) {
            checks.dueThrow("word(" + place + ", 1)", IndexOutOfBoundsException.class, () -> machine.word(place, 1));
            checks.dueThrow("look(" + place + ")", IndexOutOfBoundsException.class, () -> machine.look(place));
        }
    }

    /** So many words come in no 512 calls; the limit is held all the same. */
    private static void feed(Checks checks) {
        checks.sentence("Five more words of the stream: how many it has.");
        DrawingMachine machine = new DrawingMachine();
        for (int i = 1; i <= 512; i++) {
            checks.due("feed " + i, machine.feed(Kinds.FLUSH, i, i, i, i), 5 * i);
        }
        checks.sentence("UnsupportedOperationException if there would be more than 4096.");
        for (int i = 513; i <= 819; i++) {
            machine.feed(i, i, i, i, i);
        }
        checks.dueThrow("feed of a stream of 4095", UnsupportedOperationException.class, () -> machine.feed(0, 0, 0, 0, 0));
        machine.end(4092);
        checks.dueThrow("feed of a stream of 4092", UnsupportedOperationException.class, () -> machine.feed(0, 0, 0, 0, 0));
        checks.due("it stays as it was", machine.about(6), 4092);
        machine.end(4091);
        checks.due("feed of a stream of 4091", machine.feed(0, 0, 0, 0, 0), 4096);
        checks.dueThrow("feed of a full stream", UnsupportedOperationException.class, () -> machine.feed(0, 0, 0, 0, 0));
    }

    private static void end(Checks checks) {
        checks.sentence("The stream has n words: what it had beyond is gone");
        DrawingMachine machine = new DrawingMachine();
        machine.feed(Kinds.MASK, 1, Kinds.STORE, 7, 1);
        machine.feed(99, Kinds.MASK, 2, Kinds.FLUSH, Kinds.FLUSH);
        for (int n : new int[] {10, 8, 6}) {
            machine.end(n);
            checks.due("about(6) behind end(" + n + ")", machine.about(6), n);
        }
        checks.due("MASK, STORE, and the end of the words", machine.run(100), 3);
        checks.due("at word 6", machine.about(2), 6);
        machine.end(5);
        checks.due("the STORE's word is gone", machine.run(100), 1);
        checks.due("so it is cut", machine.about(1), Kinds.CUT);
        machine.feed(88, Kinds.FLUSH, Kinds.FLUSH, Kinds.FLUSH, Kinds.FLUSH);
        machine.end(10);
        machine.run(2);
        checks.due("words fed later stand in their places", machine.look(7), 88);
        machine.end(0);
        checks.due("end(0)", machine.about(6), 0);
        checks.due("the end of no words", machine.run(100), 1);
        checks.sentence("the run begins anew, no query is open, and what was told stays");
        machine.feed(Kinds.QUERY, 5, 1, Kinds.CONSTANT, 1);
        machine.end(5);
        machine.run(2);
        state(checks, "ahead of end", machine, 0, 0, 3, 0, 2, 5, 5, 0, -1);
        machine.end(5);
        state(checks, "behind end", machine, 0, 0, -1, -1, 0, -1, 5, 0, -1);
        machine.end(0);
        machine.feed(Kinds.CLEAR, 1, -1, 0, 0);
        machine.run(1);
        checks.due("MASK 1 stays", machine.at(0, 0, 0), 255);
        checks.sentence("IllegalArgumentException if n is below 0 or above how many it has.");
        for (int n : new int[] {LEAST, -2, -1, 6, 7, 4096, MOST}) {
            checks.dueThrow("end(" + n + ") of five words", IllegalArgumentException.class, () -> machine.end(n));
        }
        checks.due("the run stays", machine.about(4), 1);
    }

    private static void begin(Checks checks) {
        checks.sentence("The run begins anew at the stream's first word, no query is open");
        DrawingMachine machine = new DrawingMachine();
        machine.word(50, Kinds.MASK);
        machine.word(51, 99);
        machine.feed(Kinds.QUERY, 6, 1, Kinds.CALL, 50);
        for (boolean keeps : new boolean[] {true, false}) {
            machine.run(100);
            state(checks, "of a run that is over", machine, 1, Kinds.VALUE, 50, 1, 2, 6, 5);
            machine.begin(keeps);
            state(checks, "behind begin(" + keeps + ")", machine, 0, 0, -1, -1, 0, -1, 5);
            checks.due("the first word again", machine.run(1), 1);
            state(checks, "behind one command", machine, 0, 0, 0, 0, 1, 6, 5);
        }
        toldAndNotTold(checks);
    }

    private static void toldAndNotTold(Checks checks) {
        for (boolean keeps : new boolean[] {true, false}) {
            checks.sentence(keeps ? "what was told stays, if so it is said" : "otherwise nothing was told (programs neither; "
                + "what was drawn stays, and what queries counted)");
            Rig rig = new Rig();
            rig.coverAll(3, 3);
            rig.colourOfUniform(0);
            rig.say(Kinds.UNIFORM, 0, Rig.ONE, Rig.ONE, 0, 0, Kinds.MASK, 5, Kinds.QUERY, 2, 1, Kinds.DRAW, 0, 0, 3);
            rig.machine.begin(keeps);
            checks.due("what was drawn", rig.machine.at(2, 2, 0), 255);
            checks.due("what the query counted", rig.machine.query(2), 9);
            checks.due("memory", rig.machine.look(3900) != 0 ? 1 : 0, 1);
            checks.due("a DRAW", rig.sayJust(Kinds.DRAW, 0, 0, 3), keeps ? 0 : Kinds.STATE);
            rig.sayJust(Kinds.CLEAR, 1, 0x01020304, 0, 0);
            checks.due("the mask", rig.machine.at(0, 0, 0), keeps ? 0x00020004 : 0x01020304);
        }
    }

    private static void run(Checks checks) {
        checks.sentence("Goes on by n commands, or up to the run's end: how many were done (one that is refused is not among them).");
        DrawingMachine machine = new DrawingMachine();
        machine.feed(Kinds.FLUSH, Kinds.FLUSH, Kinds.FLUSH, Kinds.FLUSH, 26);
        int[][] due = {{0, 0}, {1, 1}, {2, 2}, {0, 0}, {1, 1}, {0, 0}, {1, 0}};
        for (int[] row : due) {
            checks.due("run(" + row[0] + ")", machine.run(row[0]), row[1]);
        }
        checks.due("about(4)", machine.about(4), 4);
        for (int n : new int[] {4, 5, 6, MOST}) {
            machine.begin(true);
            checks.due("run(" + n + ") of four and a refused one", machine.run(n), 4);
            checks.due("over behind run(" + n + ")", machine.about(0), n == 4 ? 0 : 1);
        }
        checks.sentence("IllegalStateException if the run is over.");
        for (int n : new int[] {0, 1, MOST}) {
            checks.dueThrow("run(" + n + ") behind a refusal", IllegalStateException.class, () -> machine.run(n));
        }
        for (int words : new int[] {4, 0}) {
            machine.end(words);
            machine.run(100);
            checks.dueThrow("run(0) behind the end of " + words, IllegalStateException.class, () -> machine.run(0));
        }
        machine.feed(Kinds.END, Kinds.FLUSH, Kinds.FLUSH, Kinds.FLUSH, Kinds.FLUSH);
        machine.begin(true);
        checks.due("END", machine.run(1), 1);
        checks.dueThrow("run(1) behind END", IllegalStateException.class, () -> machine.run(1));
        checks.sentence("IllegalArgumentException if n is below 0");
        machine.begin(true);
        for (int n : FAR_AWAY) {
            checks.dueThrow("run(" + n + ")", IllegalArgumentException.class, () -> machine.run(n));
        }
        checks.due("the run stays", machine.about(2), -1);
    }

    private static void aboutTheRun(Checks checks) {
        checks.sentence("the place of the command that came last, or was refused: its first word (at the end of the words: how many "
            + "there are), and how deep calls are where it stands (NONE if none came)");
        DrawingMachine machine = new DrawingMachine();
        machine.word(9, Kinds.CALL);
        machine.word(10, 20);
        machine.word(21, 26);
        machine.feed(Kinds.MASK, 3, Kinds.CALL, 20, Kinds.CALL);
        machine.feed(9, Kinds.MASK, 3, Kinds.FLUSH, Kinds.FLUSH);
        state(checks, "where none came", machine, 0, 0, -1, -1, 0);
        machine.run(0);
        state(checks, "where none came still", machine, 0, 0, -1, -1, 0);
        int[][] due = {{0, 0}, {2, 0}, {20, 1}, {4, 0}, {9, 1}, {20, 2}, {11, 1}, {6, 0}, {8, 0}, {9, 0}};
        for (int i = 0; i < due.length; i++) {
            machine.run(1);
            state(checks, "behind command " + (i + 1), machine, 0, 0, due[i][0], due[i][1], i + 1);
        }
        machine.run(1);
        state(checks, "at the end of the words", machine, 1, 0, 10, 0, 11);
        machine.begin(true);
        machine.word(20, 26);
        machine.run(100);
        state(checks, "behind a refusal in a list", machine, 1, Kinds.NO_KIND, 20, 1, 2);
        machine.end(0);
        machine.run(1);
        state(checks, "at the end of no words", machine, 1, 0, 0, 0, 1);
        checks.sentence("4 how many commands were done (likewise)");
        machine.begin(true);
        checks.due("since the run began", machine.about(4), 0);
        checks.sentence("6 how many words the stream has");
        checks.due("none", machine.about(6), 0);
        machine.feed(0, 0, 0, 0, 0);
        checks.due("five", machine.about(6), 5);
        checks.sentence("IllegalArgumentException for another what.");
        for (int what : new int[] {LEAST, -1, 9, 10, MOST}) {
            checks.dueThrow("about(" + what + ")", IllegalArgumentException.class, () -> machine.about(what));
        }
    }

    private static void aboutProgramsAndQueries(Checks checks) {
        checks.sentence("5 the query that is open (NONE: none; it stays so when the run is over)");
        DrawingMachine machine = new DrawingMachine();
        machine.feed(Kinds.QUERY, 0, 1, Kinds.QUERY, 0);
        machine.feed(0, Kinds.QUERY, 7, 1, 26);
        int[] open = {0, -1, 7};
        for (int i = 0; i < 3; i++) {
            machine.run(1);
            checks.due("behind QUERY " + (i + 1), machine.about(5), open[i]);
        }
        machine.run(1);
        checks.due("over", machine.about(0), 1);
        checks.due("it stays open", machine.about(5), 7);
        checks.sentence("7 the fault of the program that was read last, whenever that was (0: none; a command 7 or 8 that is refused "
            + "with another number reads none), 8 its place (NONE: none)");
        Rig rig = new Rig();
        rig.put(100, Rig.join(Rig.bare(37, 1), Rig.bare(34, 0), Rig.stop()));
        rig.say(Kinds.PLACES_PROGRAM, 100, 3);
        state(checks, "behind a program with a fault", rig.machine, 1, Kinds.FAULT, 0, 0, 0, -1, 5, 4, 1);
        int[][] readNone = {{Kinds.CORNERS_PROGRAM, 106, 0}, {Kinds.CORNERS_PROGRAM, -1, 1}, {Kinds.PLACES_PROGRAM, 4094, 1},
            {Kinds.PLACES_PROGRAM, 106}};
        for (int[] words : readNone) {
            rig.sayJust(words);
            checks.due(Arrays.toString(words) + " is refused", rig.machine.about(1) != 0 ? 1 : 0, 1);
            checks.due("the fault stays", rig.machine.about(7), 4);
            checks.due("its place stays", rig.machine.about(8), 1);
        }
        rig.machine.begin(false);
        checks.due("the fault stays behind begin", rig.machine.about(7), 4);
        rig.say(Kinds.CORNERS_PROGRAM, 106, 1);
        checks.due("a program without a fault", rig.machine.about(7), 0);
        checks.due("has none, nor a place", rig.machine.about(8), -1);
    }

    private static void atAndSum(Checks checks) {
        checks.sentence("The colour (what = 0), depth (1), stencil (2) of a place.");
        Rig rig = new Rig();
        DrawingMachine machine = rig.machine;
        machine.frame(3, 2, 8);
        rig.say(Kinds.SCISSORS, 2, 1, 3, 2, Kinds.CLEAR, 7, LEAST, 0xFFFFFF, 255);
        int[] last = {LEAST, 0xFFFFFF, 255};
        for (int what = 0; what < 3; what++) {
            checks.due("the last place, " + what, machine.at(2, 1, what), last[what]);
            checks.due("the first place, " + what, machine.at(0, 0, what), 0);
        }
        checks.sentence("IndexOutOfBoundsException if there is no such place.");
        for (int[] place : new int[][] {{3, 0}, {0, 2}, {-1, 0}, {0, -1}, {3, 1}, {-1, 1}, {5, -1}, {LEAST, 0}, {0, MOST}}) {
            for (int what = 0; what < 3; what++) {
                int asked = what;
                checks.dueThrow("at " + Arrays.toString(place), IndexOutOfBoundsException.class, () -> machine.at(place[0], place[1], asked));
            }
        }
        checks.sentence("Of all places, row by row, beginning with 0: 31 times what there was and the colour, depth or stencil, wrapping.");
        rig.say(Kinds.SCISSORS, 0, 0, 1, 1, Kinds.CLEAR, 7, 5, 6, 7);
        // Five places behind the first one: 31 to the fifth is 28629151, and what passes 32 bits is gone.
        checks.due("sum(0)", machine.sum(0), 5 * 28629151 + LEAST);
        checks.due("sum(1)", machine.sum(1), 6 * 28629151 + 0xFFFFFF);
        checks.due("sum(2)", machine.sum(2), 7 * 28629151 + 255);
        machine.frame(1, 1, 8);
        rig.say(Kinds.CLEAR, 7, 8, 9, 10);
        checks.due("sum(0) of one place", machine.sum(0), 8);
        checks.sentence("IllegalArgumentException for another what.");
        for (int what : new int[] {LEAST, -1, 3, 4, MOST}) {
            checks.dueThrow("at(0, 0, " + what + ")", IllegalArgumentException.class, () -> machine.at(0, 0, what));
            checks.dueThrow("sum(" + what + ")", IllegalArgumentException.class, () -> machine.sum(what));
        }
    }

    private static void query(Checks checks) {
        checks.sentence("What a query (0 .. 7) counted (wrapping; 0 before it began; it stays when a run begins anew).");
        Rig rig = new Rig();
        rig.coverAll(2, 2);
        rig.colourOfUniform(0);
        for (int n = 0; n < 8; n++) {
            checks.due("query(" + n + ") before it began", rig.machine.query(n), 0);
        }
        for (int n = 0; n < 8; n += 7) {
            rig.say(Kinds.QUERY, n, 1, Kinds.DRAW, 0, 0, 3);
            for (int i = 0; i < 3; i++) {
                checks.due("query(" + n + ")", rig.machine.query(n), 4);
                if (i == 0) {
                    rig.machine.begin(true);
                } else {
                    rig.machine.end(0);
                }
            }
        }
        rig.machine.begin(false);
        checks.due("query(0) behind begin(false)", rig.machine.query(0), 4);
        checks.due("query(7) behind begin(false)", rig.machine.query(7), 4);
        checks.sentence("IllegalArgumentException for another one.");
        for (int n : new int[] {LEAST, -1, 8, 9, MOST}) {
            checks.dueThrow("query(" + n + ")", IllegalArgumentException.class, () -> rig.machine.query(n));
        }
    }

    private static void count(Checks checks) {
        checks.sentence("How many there were since the machine was made (wrapping)");
        Rig rig = new Rig();
        rig.coverAll(2, 2);
        rig.colourOfUniform(0);
        int[] due = {1, 1, 1, 0, 0, 0, 4, 0, 4};
        for (int i = 1; i <= 3; i++) {
            rig.draw();
            for (int what = 0; what < 9; what++) {
                checks.due("count(" + what + ") behind draw " + i, rig.machine.count(what), i * due[what]);
            }
            rig.machine.begin(true);
        }
        checks.sentence("IllegalArgumentException for another what.");
        for (int what : new int[] {LEAST, -1, 9, 10, MOST}) {
            checks.dueThrow("count(" + what + ")", IllegalArgumentException.class, () -> rig.machine.count(what));
        }
    }

    /** Two machines with one story; one of them is also asked, at each stage, for all that it can't do. */
    private static void throwing(Checks checks) {
        checks.sentence("A call that throws changes nothing");
        Rig one = new Rig();
        Rig other = new Rig();
        for (int stage = 0; stage < 4; stage++) {
            goOn(one, stage);
            goOn(other, stage);
            askForAllThatThrows(checks, other.machine, stage == 3);
            compare(checks, one.machine, other.machine, "stage " + stage);
        }
        askForAllThatThrows(checks, other.machine, true);
        checks.due("a draw behind all", one.draw(), other.draw());
        compare(checks, one.machine, other.machine, "the draw");
    }

    private static void goOn(Rig rig, int stage) {
        switch (stage) {
            case 0:
                return;
            case 1:
                rig.coverAll(3, 2);
                rig.placesProgram(Rig.join(Rig.set(1, Rig.TO_OUT, 0, Rig.ALL, Rig.source(Rig.UNIFORM, 0)), Rig.stop()));
                return;
            case 2:
                rig.machine.end(0);
                rig.feed(Kinds.UNIFORM, 0, 9999, Rig.ONE, 77, 30000, Kinds.QUERY, 4, 1, Kinds.DRAW, 0, 0, 3, Kinds.MASK, 16);
                rig.machine.run(2);
                return;
            default:
                rig.machine.run(100);
                return;
        }
    }

    private static void askForAllThatThrows(Checks checks, DrawingMachine machine, boolean over) {
        int words = machine.about(6);
        for (int n : FAR_AWAY) {
            checks.dueThrow("frame", IllegalArgumentException.class, () -> machine.frame(n, 1, 8));
            checks.dueThrow("word", IndexOutOfBoundsException.class, () -> machine.word(n, 1));
            checks.dueThrow("look", IndexOutOfBoundsException.class, () -> machine.look(n));
            checks.dueThrow("end", IllegalArgumentException.class, () -> machine.end(n));
            checks.dueThrow("run", IllegalArgumentException.class, () -> machine.run(n));
            checks.dueThrow("about", IllegalArgumentException.class, () -> machine.about(n));
            checks.dueThrow("at", IllegalArgumentException.class, () -> machine.at(0, 0, n));
            checks.dueThrow("at", IndexOutOfBoundsException.class, () -> machine.at(n, 0, 0));
            checks.dueThrow("sum", IllegalArgumentException.class, () -> machine.sum(n));
            checks.dueThrow("query", IllegalArgumentException.class, () -> machine.query(n));
            checks.dueThrow("count", IllegalArgumentException.class, () -> machine.count(n));
        }
        checks.dueThrow("frame", IllegalArgumentException.class, () -> machine.frame(1, 129, 8));
        checks.dueThrow("frame", IllegalArgumentException.class, () -> machine.frame(1, 1, 9));
        checks.dueThrow("word", IndexOutOfBoundsException.class, () -> machine.word(4096, 1));
        checks.dueThrow("end", IllegalArgumentException.class, () -> machine.end(words + 1));
        if (over) {
            checks.dueThrow("run", IllegalStateException.class, () -> machine.run(5));
        }
    }

    private static void compare(Checks checks, DrawingMachine one, DrawingMachine other, String when) {
        for (int what = 0; what < 9; what++) {
            checks.due("about(" + what + "), " + when, other.about(what), one.about(what));
            checks.due("count(" + what + "), " + when, other.count(what), one.count(what));
        }
        for (int what = 0; what < 3; what++) {
            checks.due("sum(" + what + "), " + when, other.sum(what), one.sum(what));
        }
        checks.due("query(4), " + when, other.query(4), one.query(4));
        checks.due("look(0), " + when, other.look(0), one.look(0));
        checks.due("look(4095), " + when, other.look(4095), one.look(4095));
    }

    private static void firstException(Checks checks) {
        checks.sentence("of several exceptions that one goes which the call names first.");
        DrawingMachine machine = new DrawingMachine();
        for (int wrong : new int[] {LEAST, -1, 3, MOST}) {
            checks.dueThrow("at(-1, 0, " + wrong + ")", IllegalArgumentException.class, () -> machine.at(-1, 0, wrong));
            checks.dueThrow("at(0, 1, " + wrong + ")", IllegalArgumentException.class, () -> machine.at(0, 1, wrong));
        }
        machine.run(1);
        checks.due("over", machine.about(0), 1);
        for (int n : FAR_AWAY) {
            checks.dueThrow("run(" + n + ") of a run that is over", IllegalArgumentException.class, () -> machine.run(n));
        }
    }
}
