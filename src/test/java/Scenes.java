import java.util.ArrayList;
import java.util.List;
import java.util.Random;

/** Makes up programs and commands, most of them in order, some of them not. */
final class Scenes {
    static final int PICTURES = 0;
    static final int VERTICES = 150;
    static final int INDICES = 330;
    static final int CORNERS = 360;
    static final int PLACES = 460;
    static final int LIST = 640;
    static final int BEHIND = 720;
    static final int ONE = 65536;

    private static final int[] NO_TARGET = {0, 34, 35, 36, 37, 38};
    final Random chance;
    /** One of so many numbers is made to be out of order; 0: none is. */
    final int wrongOneIn;

    Scenes(long seed, int wrongOneIn) {
        this.chance = new Random(seed);
        this.wrongOneIn = wrongOneIn;
    }

    int among(int least, int most) {
        return least + chance.nextInt(most - least + 1);
    }

    boolean oneIn(int n) {
        return n > 0 && chance.nextInt(n) == 0;
    }

    int pick(int... of) {
        return of[chance.nextInt(of.length)];
    }

    /** Any word, the ends of the range and small numbers among them. */
    int anyWord() {
        switch (chance.nextInt(6)) {
            case 0: return pick(0, 1, -1, ONE, -ONE, Integer.MAX_VALUE, Integer.MIN_VALUE, 65535, 32768, -32768);
            case 1: return among(-20, 20);
            case 2: return chance.nextInt();
            default: return among(-3 * ONE, 3 * ONE);
        }
    }

    /** A number that an argument may be, or, now and then, one that it may not be. */
    int within(int least, int most) {
        if (oneIn(wrongOneIn)) {
            return pick(least - 1, most + 1, chance.nextInt());
        }
        return among(least, most);
    }

    // ---- programs

    static int first(int kind, int file, int number, int parts, boolean within, int n) {
        return kind | file << 6 | number << 8 | parts << 12 | (within ? 1 << 16 : 0) | n << 17;
    }

    static int source(int file, int number, int parts, boolean turned) {
        return file | number << 2 | parts << 7 | (turned ? 1 << 15 : 0);
    }

    /** x, y, z, w as they are. */
    static final int STRAIGHT = 0xE4;

    private int anySource() {
        int file = pick(0, 0, 1, 1, 2, 2, 3);
        int number = file == 0 ? among(0, 3) : file == 1 ? among(0, 7) : file == 2 ? among(0, 5) : 0;
        return source(file, number, pick(STRAIGHT, STRAIGHT, among(0, 255)), oneIn(3));
    }

    static boolean hasTarget(int kind) {
        for (int k : NO_TARGET) {
            if (k == kind) {
                return false;
            }
        }
        return true;
    }

    static int sourcesOf(int kind) {
        switch (kind) {
            case 0: case 34: case 35: case 37: return 0;
            case 5: case 20: case 21: return 3;
            case 2: case 3: case 4: case 6: case 7: case 8: case 9: case 16: case 17: case 18: case 19: case 22:
            case 23: case 24: case 25: case 27: case 28: case 29: return 2;
            default: return 1;
        }
    }

    private int[] instruction(int kind, int n, int file, int number, int parts) {
        int[] s = new int[3];
        for (int k = 0; k < sourcesOf(kind); k++) {
            s[k] = anySource();
        }
        int first = hasTarget(kind) ? first(kind, file, number, parts, oneIn(4), n) : first(kind, 0, 0, 0, false, n);
        return new int[] {first, s[0] | s[1] << 16, s[2]};
    }

    private int[] plain(boolean forPlaces) {
        int kind = pick(among(1, 33), among(1, 33), among(39, 40), 32, 33, 21, 13, 14, 15);
        int n = kind == 32 || kind == 33 ? among(0, 3) : 0;
        if (forPlaces && oneIn(25)) {
            kind = 38;
            n = 0;
        }
        int file = oneIn(5) ? 1 : 0;
        return instruction(kind, n, file, file == 1 ? among(1, 7) : among(0, 3), among(1, 15));
    }

    /** A program without a fault (before it is spoilt), that ends with some instructions of the caller's. */
    List<Integer> program(boolean forPlaces, int many, int[][] last) {
        List<int[]> all = new ArrayList<>();
        List<List<Integer>> around = new ArrayList<>();
        List<Integer> open = new ArrayList<>();
        for (int i = 0; i < many; i++) {
            around.add(new ArrayList<>(open));
            if (oneIn(10) && open.size() < 3) {
                open.add(i);
                all.add(instruction(34, among(1, 3), 0, 0, 0));
            } else if (!open.isEmpty() && oneIn(4)) {
                open.remove(open.size() - 1);
                all.add(instruction(35, 0, 0, 0, 0));
            } else if (oneIn(8)) {
                all.add(null);
            } else {
                all.add(plain(forPlaces));
            }
        }
        for (; !open.isEmpty(); open.remove(open.size() - 1)) {
            around.add(new ArrayList<>(open));
            all.add(instruction(35, 0, 0, 0, 0));
        }
        for (int[] one : last) {
            around.add(new ArrayList<>());
            all.add(one);
        }
        around.add(new ArrayList<>());
        all.add(new int[3]);
        List<Integer> words = new ArrayList<>();
        for (int i = 0; i < all.size(); i++) {
            int[] one = all.get(i) == null ? skip(i, around) : all.get(i);
            for (int w : one) {
                words.add(w);
            }
        }
        if (oneIn(wrongOneIn * 2)) {
            int at = chance.nextInt(words.size());
            words.set(at, oneIn(2) ? words.get(at) ^ 1 << chance.nextInt(32) : chance.nextInt());
        }
        return words;
    }

    private int[] skip(int i, List<List<Integer>> around) {
        List<Integer> targets = new ArrayList<>();
        for (int j = i + 1; j < around.size(); j++) {
            if (around.get(j).equals(around.get(i))) {
                targets.add(j);
            }
        }
        return instruction(pick(36, 36, 37), targets.get(chance.nextInt(targets.size())), 0, 0, 0);
    }

    static int[] move(int out, int parts, int source) {
        return new int[] {first(1, 1, out, parts, false, 0), source, 0};
    }

    List<Integer> cornersProgram() {
        List<int[]> last = new ArrayList<>();
        last.add(move(0, 15, source(1, 0, STRAIGHT, false)));
        for (int out = 1; out < 8; out++) {
            if (oneIn(2)) {
                last.add(move(out, 15, source(1, among(0, 7), STRAIGHT, oneIn(4))));
            }
        }
        if (oneIn(12)) {
            last.remove(0);
        }
        return program(false, among(0, 8), last.toArray(new int[0][]));
    }

    List<Integer> placesProgram() {
        int[][] moves = {move(0, 15, anySource()), move(0, among(1, 15), anySource())};
        int[][] none = new int[0][];
        return program(true, among(0, 10), oneIn(3) ? textured() : oneIn(3) ? none : moves);
    }

    /** A texture laid over: a varying or the place's own middle, made smaller, says where. */
    private int[][] textured() {
        int[] where = {first(28, 0, 3, 15, false, 0), source(1, among(0, 3), STRAIGHT, oneIn(4)) | source(2, 6, STRAIGHT, false) << 16, 0};
        int[] read = {first(pick(32, 33, 33), 1, 0, 15, false, among(0, 3)), source(0, 3, pick(STRAIGHT, among(0, 255)), false), 0};
        return new int[][] {where, read};
    }

    // ---- vertices and pictures

    /** A corner's place, mostly such that something of its triangle can be seen. */
    void vertex(List<Integer> words) {
        int w = pick(ONE, ONE, ONE, among(ONE / 4, 4 * ONE), among(ONE / 4, 4 * ONE),
            oneIn(3) ? among(-ONE, ONE) : ONE / 2, oneIn(3) ? among(0, 600) : 800);
        if (oneIn(30)) {
            w = anyWord();
        }
        long size = Math.max(Math.abs((long) w), 256);
        for (int k = 0; k < 3; k++) {
            long v = (long) (size * (chance.nextDouble() * (k == 2 ? 2 : 3.4) - (k == 2 ? 0.9 : 1.7)));
            if (oneIn(6)) {
                v = pick(-1, 0, 1) * size;
            }
            words.add(oneIn(40) ? anyWord() : (int) Math.max(Integer.MIN_VALUE, Math.min(Integer.MAX_VALUE, v)));
        }
        words.add(w);
    }

    List<Integer> memoryWords() {
        List<Integer> words = new ArrayList<>();
        while (words.size() < VERTICES) {
            words.add(chance.nextInt());
        }
        while (words.size() + 10 <= INDICES) {
            vertex(words);
            for (int k = 0; k < 6; k++) {
                words.add(anyWord());
            }
        }
        padTo(words, INDICES);
        while (words.size() < CORNERS) {
            words.add(pick(among(0, 17), among(0, 17) | among(0, 17) << 16, 0x03020100 + chance.nextInt(4), anyWord()));
        }
        words.addAll(cut(cornersProgram(), PLACES - CORNERS));
        cornersMany = (words.size() - CORNERS) / 3;
        padTo(words, PLACES);
        words.addAll(cut(placesProgram(), LIST - PLACES));
        placesMany = (words.size() - PLACES) / 3;
        padTo(words, LIST);
        List<Integer> list = new ArrayList<>();
        for (int i = 0; i < 6; i++) {
            command(list);
        }
        list.add(0);
        words.addAll(cut(list, BEHIND - LIST));
        return words;
    }

    int cornersMany;
    int placesMany;

    private static List<Integer> cut(List<Integer> words, int most) {
        return words.size() <= most ? words : words.subList(0, most / 3 * 3);
    }

    private static void padTo(List<Integer> words, int size) {
        while (words.size() < size) {
            words.add(0);
        }
    }

    // ---- commands

    private void add(List<Integer> to, int... words) {
        for (int w : words) {
            to.add(w);
        }
    }

    /** What a scene tells ahead of its commands, so that most draws draw something. */
    void opening(List<Integer> to, int wide, int high) {
        add(to, 2, pick(0, 0, among(-8, 8)), pick(0, 0, among(-8, 8)), wide, high, 0, pick(16777215, among(0, 16777215)));
        add(to, 4, 0, VERTICES, 10, 4, 0);
        for (int n = 1; n < 4; n++) {
            add(to, 4, n, VERTICES + among(4, 8), 10, among(1, 4), among(0, 3));
        }
        add(to, 7, CORNERS, Math.max(1, cornersMany), 8, PLACES, Math.max(1, placesMany));
        for (int n = 0; n < 3; n++) {
            add(to, 5, n, anyWord(), anyWord(), anyWord(), anyWord());
        }
        add(to, 5, 6, among(0, 5), among(0, 5), pick(0, 1, 2, 12), 0);
        for (int unit = 0; unit < 4; unit++) {
            add(to, 9, unit, PICTURES + among(0, 60), among(0, 4), among(0, 4), among(1, 6), among(0, 7));
            add(to, 24, unit, among(0, 3), among(0, 3), among(0, 3));
        }
    }

    int wide = 1;
    int high = 1;
    private int open = -1;

    /** Where so many words are, or, now and then, where some of them aren't. */
    private int place(int words) {
        int many = Math.max(0, Math.min(words, 3000));
        if (oneIn(40)) {
            return pick(among(4096 - many, 4100), within(0, 1 << 20));
        }
        return oneIn(4) ? among(0, BEHIND) : among(BEHIND, 4096 - many);
    }

    private int queryBegins(int n) {
        if (oneIn(15)) {
            return among(0, 1);
        }
        int begins = open == n ? 0 : 1;
        open = begins == 1 ? n : -1;
        return begins;
    }

    void command(List<Integer> to) {
        if (oneIn(wrongOneIn * 3)) {
            to.add(pick(-1, 26, chance.nextInt()));
        }
        int kind = pick(among(0, 25), among(1, 25), 17, 17, 18, 18, 9, 24, 10, 11, 12, 3);
        switch (kind) {
            case 1: add(to, 1, within(0, 7), chance.nextInt(), within(0, 16777215), within(0, 255)); break;
            case 2:
                add(to, 2, within(-4, 4), within(-4, 4), oneIn(5) ? within(1, 1024) : within(6, 24), within(6, 24),
                    within(0, 16777215), within(0, 16777215));
                break;
            case 3: add(to, 3, among(-2, 3), among(-2, 3), oneIn(2) ? -5 : among(-3, 20), among(0, 20)); break;
            case 4:
                add(to, 4, oneIn(4) ? within(0, 7) : among(1, 7), oneIn(5) ? place(4) : VERTICES + among(0, 9), oneIn(5) ? within(0, 1024) : 10,
                    within(0, 4), within(0, 3));
                break;
            case 5: add(to, 5, within(0, 31), anyWord(), anyWord(), anyWord(), anyWord()); break;
            case 6: {
                int n = within(0, 31);
                int many = oneIn(10) ? within(0, 32) : among(0, Math.max(0, Math.min(3, 32 - n)));
                add(to, 6, n, many, place(4 * many));
                break;
            }
            case 7:
                add(to, 7, oneIn(12) ? place(3) : CORNERS, oneIn(12) ? within(1, 256) : Math.max(1, cornersMany));
                break;
            case 8:
                add(to, 8, oneIn(12) ? place(3) : PLACES, oneIn(12) ? within(1, 256) : Math.max(1, placesMany));
                break;
            case 9:
                add(to, 9, within(0, 3), oneIn(6) ? place(4) : PICTURES + among(0, 40), pick(within(0, 4), within(0, 10)),
                    pick(within(0, 4), within(0, 10)), pick(within(1, 4), within(1, 11)), within(0, 7));
                break;
            case 10: add(to, 10, within(-1, 7), within(0, 1)); break;
            case 11:
                add(to, 11, within(0, 1), within(-1, 7), within(0, 255), within(0, 255), within(0, 255), within(0, 7),
                    within(0, 7), within(0, 7));
                break;
            case 12:
                add(to, 12, within(0, 14), within(0, 14), within(0, 14), within(0, 14), within(-1, 4), within(0, 4));
                break;
            case 13: add(to, 13, chance.nextInt()); break;
            case 14: add(to, 14, oneIn(2) ? -1 : within(-1, 15)); break;
            case 15: add(to, 15, oneIn(2) ? 15 : within(0, 15)); break;
            case 16: add(to, 16, oneIn(4) ? within(0, 3) : 0, within(0, 1)); break;
            case 17: add(to, 17, within(0, 2), oneIn(15) ? place(1) : among(0, 12), pick(3, 4, 6, among(0, 7))); break;
            case 18:
                add(to, 18, within(0, 2), oneIn(15) ? place(1) : INDICES + among(0, 8), pick(3, 4, 6, among(0, 7)), within(0, 2),
                    pick(0, 0, among(-3, 3), chance.nextInt()));
                break;
            case 19: {
                int n = open >= 0 && !oneIn(15) ? open : within(0, 7);
                add(to, 19, n, queryBegins(n));
                break;
            }
            case 20: {
                int x = oneIn(20) ? within(0, 127) : among(0, wide - 1);
                int y = oneIn(20) ? within(0, 127) : among(0, high - 1);
                int w = oneIn(20) ? within(1, 128) : among(1, Math.max(1, wide - x));
                int h = oneIn(20) ? within(1, 128) : among(1, Math.max(1, high - y));
                add(to, 20, x, y, w, h, place(w * h), within(0, 2));
                break;
            }
            case 21: {
                int many = pick(0, 1, 3);
                add(to, 21, place(many), oneIn(wrongOneIn) ? pick(-1, 257) : many);
                for (int i = 0; i < many; i++) {
                    to.add(anyWord());
                }
                break;
            }
            case 23: add(to, 23, oneIn(8) ? place(1) : LIST); break;
            case 24: add(to, 24, within(0, 3), within(0, 3), within(0, 3), within(0, 3)); break;
            case 25: add(to, 25, within(0, 3), anyWord(), anyWord(), anyWord(), anyWord()); break;
            case 0: add(to, oneIn(3) ? 0 : 22); break;
            default: add(to, 22); break;
        }
    }
}
