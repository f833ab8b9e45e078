/** The commands by their names, for tests that feed many of them. */
final class Kinds {
    static final int END = 0;
    static final int CLEAR = 1;
    static final int VIEW = 2;
    static final int SCISSORS = 3;
    static final int ATTRIBUTE = 4;
    static final int UNIFORM = 5;
    static final int UNIFORMS = 6;
    static final int CORNERS_PROGRAM = 7;
    static final int PLACES_PROGRAM = 8;
    static final int TEXTURE = 9;
    static final int DEPTH = 10;
    static final int STENCIL = 11;
    static final int BLEND = 12;
    static final int CONSTANT = 13;
    static final int LOGIC = 14;
    static final int MASK = 15;
    static final int FACES = 16;
    static final int DRAW = 17;
    static final int DRAW_BY_INDEX = 18;
    static final int QUERY = 19;
    static final int COPY = 20;
    static final int STORE = 21;
    static final int FLUSH = 22;
    static final int CALL = 23;
    static final int MANNER = 24;
    static final int BORDER = 25;

    /** The numbers with which a command is refused. */
    static final int CUT = 1;
    static final int NO_KIND = 2;
    static final int VALUE = 3;
    static final int FAULT = 4;
    static final int PLACE = 5;
    static final int STATE = 6;
    static final int LONG = 7;
    static final int WORK = 8;

    private Kinds() {
    }
}
