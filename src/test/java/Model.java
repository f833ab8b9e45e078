import java.math.BigInteger;
import java.util.ArrayList;
import java.util.List;

/**
 * The document once more, written down as slowly and as near to its words as can be: exact numbers where
 * the document says "exact", no row used twice, nothing left away that can't be seen. The tests hold the
 * class against it.
 */
final class Model {
    static final int NONE = -1;

    final int[] memory = new int[4096];
    final List<Integer> stream = new ArrayList<>();

    int wide = 1;
    int high = 1;
    int[][][] colour = new int[1][1][4];
    int[][] depth = new int[1][1];
    int[][] stencil = new int[1][1];

    boolean over;
    int refused;
    int lastPlace = NONE;
    int lastDeep = NONE;
    int done;
    int position;
    final List<Integer> returns = new ArrayList<>();
    BigInteger work = BigInteger.ZERO;

    int openQuery = NONE;
    final int[] queries = new int[8];
    final int[] counts = new int[9];
    int fault;
    int faultPlace = NONE;

    // What was told.
    int[] view;
    int[] scissors;
    int[][] attributes;
    int[][] uniforms;
    int[][] textures;
    int[][] manners;
    int[][] borders;
    int[] depthRule;
    int[][] stencilRules;
    int[] blend;
    int constant;
    int logic;
    int mask;
    int[] faces;
    int[] cornersProgram;
    int[] placesProgram;

    Model() {
        nothingTold();
    }

    private void nothingTold() {
        view = new int[] {0, 0, 1, 1, 0, 16777215};
        scissors = new int[] {0, 0, -1, 0};
        attributes = new int[8][4];
        uniforms = new int[32][4];
        textures = new int[4][5];
        for (int[] t : textures) {
            t[3] = 1;
        }
        manners = new int[4][3];
        borders = new int[4][4];
        depthRule = new int[] {-1, 0};
        stencilRules = new int[][] {{-1, 0, 0, 0, 0, 0, 0}, {-1, 0, 0, 0, 0, 0, 0}};
        blend = new int[] {0, 0, 0, 0, -1, 0};
        constant = 0;
        logic = -1;
        mask = 15;
        faces = new int[] {0, 0};
        cornersProgram = null;
        placesProgram = null;
    }

    // ---- the face

    int frame(int w, int h, int side) {
        if (w < 1 || w > 128 || h < 1 || h > 128 || side != 8 && side != 16 && side != 32 && side != 64) {
            throw new IllegalArgumentException();
        }
        wide = w;
        high = h;
        colour = new int[h][w][4];
        depth = new int[h][w];
        stencil = new int[h][w];
        int tiles = 0;
        for (int y = 0; y < h; y += side) {
            for (int x = 0; x < w; x += side) {
                tiles++;
            }
        }
        return tiles;
    }

    int word(int place, int v) {
        int was = look(place);
        memory[place] = v;
        return was;
    }

    int look(int place) {
        if (place < 0 || place >= 4096) {
            throw new IndexOutOfBoundsException();
        }
        return memory[place];
    }

    int feed(int a, int b, int c, int d, int e) {
        if (stream.size() + 5 > 4096) {
            throw new UnsupportedOperationException();
        }
        for (int v : new int[] {a, b, c, d, e}) {
            stream.add(v);
        }
        return stream.size();
    }

    void end(int n) {
        if (n < 0 || n > stream.size()) {
            throw new IllegalArgumentException();
        }
        while (stream.size() > n) {
            stream.remove(stream.size() - 1);
        }
        begin(true);
    }

    void begin(boolean keeps) {
        over = false;
        refused = 0;
        lastPlace = NONE;
        lastDeep = NONE;
        done = 0;
        position = 0;
        returns.clear();
        work = BigInteger.ZERO;
        openQuery = NONE;
        if (!keeps) {
            nothingTold();
        }
    }

    int run(int n) {
        if (n < 0) {
            throw new IllegalArgumentException();
        }
        if (over) {
            throw new IllegalStateException();
        }
        int some = 0;
        while (some < n && !over) {
            int number = oneCommand();
            if (number == 0) {
                some++;
                done++;
            } else {
                refused = number;
                over = true;
            }
        }
        return some;
    }

    int about(int what) {
        int[] all = {over ? 1 : 0, refused, lastPlace, lastDeep, done, openQuery, stream.size(), fault, faultPlace};
        if (what < 0 || what > 8) {
            throw new IllegalArgumentException();
        }
        return all[what];
    }

    int at(int x, int y, int what) {
        if (what < 0 || what > 2) {
            throw new IllegalArgumentException();
        }
        if (x < 0 || y < 0 || x >= wide || y >= high) {
            throw new IndexOutOfBoundsException();
        }
        if (what == 0) {
            int[] c = colour[y][x];
            return (int) (c[3] * 16777216L + c[2] * 65536L + c[1] * 256L + c[0]);
        }
        return what == 1 ? depth[y][x] : stencil[y][x];
    }

    int sum(int what) {
        if (what < 0 || what > 2) {
            throw new IllegalArgumentException();
        }
        int s = 0;
        for (int y = 0; y < high; y++) {
            for (int x = 0; x < wide; x++) {
                s = 31 * s + at(x, y, what);
            }
        }
        return s;
    }

    int query(int n) {
        if (n < 0 || n > 7) {
            throw new IllegalArgumentException();
        }
        return queries[n];
    }

    int count(int what) {
        if (what < 0 || what > 8) {
            throw new IllegalArgumentException();
        }
        return counts[what];
    }

    // ---- section 1

    private static final String ANY = "any";

    /** Each argument as "least most" or "any". */
    private static String[] arguments(int kind) {
        String far = "0 1048576";
        String deep = "0 16777215";
        String b = "0 255";
        switch (kind) {
            case 0: return new String[] {};
            case 1: return new String[] {"0 7", ANY, deep, b};
            case 2: return new String[] {"-1023 1023", "-1023 1023", "1 1024", "1 1024", deep, deep};
            case 3: return new String[] {ANY, ANY, ANY, ANY};
            case 4: return new String[] {"0 7", far, "0 1024", "0 4", "0 3"};
            case 5: return new String[] {"0 31", ANY, ANY, ANY, ANY};
            case 6: return new String[] {"0 31", "0 32", far};
            case 7: return new String[] {far, "1 256"};
            case 8: return new String[] {far, "1 256"};
            case 9: return new String[] {"0 3", far, "0 10", "0 10", "1 11", "0 7"};
            case 10: return new String[] {"-1 7", "0 1"};
            case 11: return new String[] {"0 1", "-1 7", b, b, b, "0 7", "0 7", "0 7"};
            case 12: return new String[] {"0 14", "0 14", "0 14", "0 14", "-1 4", "0 4"};
            case 13: return new String[] {ANY};
            case 14: return new String[] {"-1 15"};
            case 15: return new String[] {"0 15"};
            case 16: return new String[] {"0 3", "0 1"};
            case 17: return new String[] {"0 2", far, "0 4096"};
            case 18: return new String[] {"0 2", far, "0 4096", "0 2", ANY};
            case 19: return new String[] {"0 7", "0 1"};
            case 20: return new String[] {"0 127", "0 127", "1 128", "1 128", far, "0 2"};
            case 21: return new String[] {far, "0 256"};
            case 22: return new String[] {};
            case 23: return new String[] {far};
            case 24: return new String[] {"0 3", "0 3", "0 3", "0 3"};
            case 25: return new String[] {"0 3", ANY, ANY, ANY, ANY};
            default: return null;
        }
    }

    private boolean thereIs(int place) {
        return place < (returns.isEmpty() ? stream.size() : 4096);
    }

    private int wordAt(int place) {
        return returns.isEmpty() ? stream.get(place) : memory[place];
    }

    private static boolean inMemory(long from, long many) {
        for (long i = from; i < from + many; i++) {
            if (i < 0 || i >= 4096) {
                return false;
            }
        }
        return true;
    }

    private int oneCommand() {
        lastPlace = position;
        lastDeep = returns.size();
        if (done == 2000) {
            return 7;
        }
        if (!thereIs(position)) {
            if (!returns.isEmpty()) {
                return 1;
            }
            over = true;
            return 0;
        }
        int kind = wordAt(position);
        String[] may = arguments(kind);
        if (may == null) {
            return 2;
        }
        List<Integer> args = new ArrayList<>();
        for (int i = 0; i < may.length; i++) {
            if (!thereIs(position + 1 + i)) {
                return 1;
            }
            args.add(wordAt(position + 1 + i));
        }
        if (kind == 21) {
            int more = Math.max(0, Math.min(256, args.get(1)));
            for (int i = 0; i < more; i++) {
                if (!thereIs(position + 3 + i)) {
                    return 1;
                }
                args.add(wordAt(position + 3 + i));
            }
        }
        for (int i = 0; i < may.length; i++) {
            if (!may[i].equals(ANY)) {
                String[] ends = may[i].split(" ");
                if (args.get(i) < Integer.parseInt(ends[0]) || args.get(i) > Integer.parseInt(ends[1])) {
                    return 3;
                }
            }
        }
        int[] a = args.stream().mapToInt(Integer::intValue).toArray();
        if (!placesThere(kind, a)) {
            return 5;
        }
        if (kind == 17 || kind == 18) {
            if (cornersProgram == null || placesProgram == null) {
                return 6;
            }
        }
        if (kind == 19 && (a[1] == 1 ? openQuery != NONE : openQuery != a[0])) {
            return 6;
        }
        if (kind == 23 && returns.size() == 4) {
            return 6;
        }
        int number = carryOut(kind, a);
        if (number != 0) {
            return number;
        }
        int behind = position + 1 + a.length;
        if (kind == 0 && returns.isEmpty()) {
            over = true;
        } else if (kind == 0) {
            position = returns.remove(returns.size() - 1);
        } else if (kind == 23) {
            returns.add(behind);
            position = a[0];
        } else {
            position = behind;
        }
        return 0;
    }

    private boolean placesThere(int kind, int[] a) {
        switch (kind) {
            case 6: return a[0] + a[1] <= 32 && inMemory(a[2], 4 * a[1]);
            case 7:
            case 8: return inMemory(a[0], 3 * a[1]);
            case 20: return a[0] + a[2] <= wide && a[1] + a[3] <= high && inMemory(a[4], a[2] * a[3]);
            case 21: return inMemory(a[0], a[1]);
            case 23: return inMemory(a[0], 1);
            default: return true;
        }
    }

    private static int[] from(int[] a, int first) {
        return java.util.Arrays.copyOfRange(a, first, a.length);
    }

    private int carryOut(int kind, int[] a) {
        switch (kind) {
            case 1: clear(a); break;
            case 2: view = a; break;
            case 3: scissors = a; break;
            case 4: attributes[a[0]] = from(a, 1); break;
            case 5: uniforms[a[0]] = from(a, 1); break;
            case 6:
                for (int i = 0; i < 4 * a[1]; i++) {
                    uniforms[a[0] + i / 4][i % 4] = memory[a[2] + i];
                }
                break;
            case 7:
            case 8: return program(kind == 8, a);
            case 9: textures[a[0]] = from(a, 1); break;
            case 10: depthRule = a; break;
            case 11: stencilRules[a[0]] = from(a, 1); break;
            case 12: blend = a; break;
            case 13: constant = a[0]; break;
            case 14: logic = a[0]; break;
            case 15: mask = a[0]; break;
            case 16: faces = a; break;
            case 17:
            case 18: return draw(kind, a);
            case 19:
                if (a[1] == 1) {
                    queries[a[0]] = 0;
                    openQuery = a[0];
                } else {
                    openQuery = NONE;
                }
                break;
            case 20:
                for (int i = 0; i < a[2] * a[3]; i++) {
                    memory[a[4] + i] = at(a[0] + i % a[2], a[1] + i / a[2], a[5]);
                }
                break;
            case 21:
                for (int i = 0; i < a[1]; i++) {
                    memory[a[0] + i] = a[2 + i];
                }
                break;
            case 24: manners[a[0]] = from(a, 1); break;
            case 25: borders[a[0]] = from(a, 1); break;
            default: break;
        }
        return 0;
    }

    private int mem(long place) {
        return place >= 0 && place < 4096 ? memory[(int) place] : 0;
    }

    // ---- exact numbers

    private static BigInteger big(long v) {
        return BigInteger.valueOf(v);
    }

    /** Divided, down. */
    private static BigInteger down(BigInteger a, BigInteger b) {
        BigInteger[] parts = a.divideAndRemainder(b);
        boolean below = parts[1].signum() != 0 && parts[1].signum() != b.signum();
        return below ? parts[0].subtract(BigInteger.ONE) : parts[0];
    }

    private static BigInteger cut(BigInteger v, long least, long most) {
        return v.max(big(least)).min(big(most));
    }

    private static int product(int a, int b) {
        return down(big(a).multiply(big(b)), big(65536)).intValue();
    }

    private static int quotient(int a, int b) {
        if (b == 0) {
            return a > 0 ? Integer.MAX_VALUE : a < 0 ? Integer.MIN_VALUE : 0;
        }
        return cut(down(big(a).multiply(big(65536)), big(b)), Integer.MIN_VALUE, Integer.MAX_VALUE).intValueExact();
    }

    // ---- section 2

    private int program(boolean forPlaces, int[] a) {
        int[] words = java.util.Arrays.copyOfRange(memory, a[0], a[0] + 3 * a[1]);
        fault = 0;
        faultPlace = NONE;
        check(words, forPlaces);
        if (fault != 0) {
            return 4;
        }
        if (forPlaces) {
            placesProgram = words;
        } else {
            cornersProgram = words;
        }
        return 0;
    }

    private static int kindOf(int[] words, int i) {
        return words[3 * i] & 63;
    }

    private static int numberOf(int[] words, int i) {
        return words[3 * i] >>> 17;
    }

    private static final List<Integer> NO_TARGET = List.of(0, 34, 35, 36, 37, 38);
    private static final List<Integer> NO_SOURCE = List.of(0, 34, 35, 37);
    private static final List<Integer> TWO_SOURCES =
        List.of(2, 3, 4, 6, 7, 8, 9, 16, 17, 18, 19, 22, 23, 24, 25, 27, 28, 29);
    private static final List<Integer> THREE_SOURCES = List.of(5, 20, 21);

    private static int sourcesOf(int kind) {
        return NO_SOURCE.contains(kind) ? 0 : TWO_SOURCES.contains(kind) ? 2 : THREE_SOURCES.contains(kind) ? 3 : 1;
    }

    /** The LOOP in which an instruction is, NONE if in none; a LOOP is in what is around it. */
    private static List<Integer> loopsAround(int[] words, int place) {
        List<Integer> open = new ArrayList<>();
        for (int i = 0; i < place; i++) {
            if (kindOf(words, i) == 34) {
                open.add(i);
            }
            if (kindOf(words, i) == 35 && !open.isEmpty()) {
                open.remove(open.size() - 1);
            }
        }
        return open;
    }

    private void check(int[] words, boolean forPlaces) {
        int many = words.length / 3;
        for (int i = 0; i < many; i++) {
            for (int f = 1; f <= 7; f++) {
                if (hasFault(f, words, i, forPlaces)) {
                    fault = f;
                    faultPlace = i;
                    return;
                }
            }
        }
        List<Integer> open = loopsAround(words, many);
        if (!open.isEmpty()) {
            fault = 5;
            faultPlace = open.get(open.size() - 1);
            return;
        }
        for (int i = 0; i < many; i++) {
            boolean jumps = kindOf(words, i) == 36 || kindOf(words, i) == 37;
            if (jumps && !loopsAround(words, i).equals(loopsAround(words, numberOf(words, i)))) {
                fault = 5;
                faultPlace = i;
                return;
            }
        }
        if (steps(words).compareTo(big(65536)) > 0) {
            fault = 8;
            faultPlace = -1;
        }
    }

    private static BigInteger steps(int[] words) {
        BigInteger all = BigInteger.ZERO;
        for (int i = 0; i < words.length / 3; i++) {
            BigInteger times = BigInteger.ONE;
            for (int loop : loopsAround(words, i)) {
                times = times.multiply(big(numberOf(words, loop)));
            }
            all = all.add(times);
        }
        return all;
    }

    private static boolean bit(int v, int n) {
        return (v >>> n & 1) == 1;
    }

    private static int bits(int v, int least, int most) {
        int r = 0;
        for (int n = most; n >= least; n--) {
            r = 2 * r + (bit(v, n) ? 1 : 0);
        }
        return r;
    }

    private static boolean hasFault(int f, int[] words, int i, boolean forPlaces) {
        int w = words[3 * i];
        int kind = bits(w, 0, 5);
        int n = bits(w, 17, 31);
        int many = words.length / 3;
        switch (f) {
            case 1:
                return kind > 40;
            case 2:
                if (NO_TARGET.contains(kind)) {
                    return bits(w, 6, 16) != 0;
                }
                return bits(w, 6, 7) > 1 || bits(w, 6, 7) == 1 && bits(w, 8, 11) > 7 || bits(w, 12, 15) == 0;
            case 3: {
                int[] sources = {bits(words[3 * i + 1], 0, 15), bits(words[3 * i + 1], 16, 31), bits(words[3 * i + 2], 0, 15)};
                for (int k = 0; k < 3; k++) {
                    int file = bits(sources[k], 0, 1);
                    int number = bits(sources[k], 2, 6);
                    if (k >= sourcesOf(kind)) {
                        if (sources[k] != 0) {
                            return true;
                        }
                    } else if (file == 0 && number > 15 || file == 1 && number > 7 || file == 3 && number != 0) {
                        return true;
                    }
                }
                return bits(words[3 * i + 2], 16, 31) != 0;
            }
            case 4:
                if (kind == 36 || kind == 37) {
                    return n <= i || n >= many;
                }
                if (kind == 34) {
                    return n < 1 || n > 255;
                }
                return kind == 32 || kind == 33 ? n > 3 : n != 0;
            case 5:
                return kind == 35 && loopsAround(words, i).isEmpty() || kind == 34 && loopsAround(words, i).size() >= 4;
            case 6:
                return kind == 0 && i != many - 1 || kind != 0 && i == many - 1;
            default:
                return kind == 38 && !forPlaces;
        }
    }

    /** The outs of a program, or null if it was killed. */
    private int[][] runProgram(int[] words, int[][] ins) {
        int[][] temporaries = new int[16][4];
        int[][] outs = new int[8][4];
        // Of each loop that is open: its first instruction, and how often it is still to be done.
        List<int[]> loops = new ArrayList<>();
        int at = 0;
        while (true) {
            int w = words[3 * at];
            int kind = bits(w, 0, 5);
            int n = bits(w, 17, 31);
            int[] sources = {bits(words[3 * at + 1], 0, 15), bits(words[3 * at + 1], 16, 31), bits(words[3 * at + 2], 0, 15)};
            int[][] s = new int[3][4];
            for (int k = 0; k < sourcesOf(kind); k++) {
                int file = bits(sources[k], 0, 1);
                int number = bits(sources[k], 2, 6);
                int[] vector = file == 0 ? temporaries[number] : file == 1 ? ins[number] : file == 2 ? uniforms[number] : new int[4];
                for (int p = 0; p < 4; p++) {
                    int v = vector[bits(sources[k], 7 + 2 * p, 8 + 2 * p)];
                    s[k][p] = bit(sources[k], 15) ? 0 - v : v;
                }
            }
            if (kind == 0) {
                return outs;
            }
            if (kind == 34) {
                loops.add(new int[] {at + 1, n});
                at++;
                continue;
            }
            if (kind == 35) {
                int[] loop = loops.get(loops.size() - 1);
                loop[1]--;
                if (loop[1] > 0) {
                    at = loop[0];
                } else {
                    loops.remove(loops.size() - 1);
                    at++;
                }
                continue;
            }
            if (kind == 36) {
                at = s[0][0] > 0 ? at + 1 : n;
                continue;
            }
            if (kind == 37) {
                at = n;
                continue;
            }
            if (kind == 38) {
                for (int p = 0; p < 4; p++) {
                    if (s[0][p] < 0) {
                        return null;
                    }
                }
                at++;
                continue;
            }
            int[] r = result(kind, n, s[0], s[1], s[2]);
            int[] target = bits(w, 6, 7) == 0 ? temporaries[bits(w, 8, 11)] : outs[bits(w, 8, 11)];
            for (int p = 0; p < 4; p++) {
                if (bit(w, 12 + p)) {
                    target[p] = bit(w, 16) ? Math.max(0, Math.min(65536, r[p])) : r[p];
                }
            }
            at++;
        }
    }

    private static int[] all(int v) {
        return new int[] {v, v, v, v};
    }

    private int[] result(int kind, int n, int[] a, int[] b, int[] c) {
        int k = a[0] >> 16;
        switch (kind) {
            case 6: return all(product(a[0], b[0]) + product(a[1], b[1]) + product(a[2], b[2]));
            case 7: return all(product(a[0], b[0]) + product(a[1], b[1]) + product(a[2], b[2]) + product(a[3], b[3]));
            case 13: return all(quotient(65536, a[0]));
            case 14: return all(a[0] <= 0 ? Integer.MAX_VALUE : inverseRoot(a[0]));
            case 15: return all(a[0] < 0 ? 0 : big(a[0]).multiply(big(65536)).sqrt().intValueExact());
            case 22:
                return new int[] {
                    product(a[1], b[2]) - product(a[2], b[1]),
                    product(a[2], b[0]) - product(a[0], b[2]),
                    product(a[0], b[1]) - product(a[1], b[0]), 0};
            case 30: return k >= 0 && k < 32 ? uniforms[k].clone() : new int[4];
            case 31: return new int[] {mem(k), mem(k + 1), mem(k + 2), mem(k + 3)};
            case 32: return texture(n, a[0], a[1], 0);
            case 33: return texture(n, a[0], a[1], a[2]);
            default:
                int[] r = new int[4];
                for (int p = 0; p < 4; p++) {
                    r[p] = part(kind, a[p], b[p], c[p]);
                }
                return r;
        }
    }

    private static int inverseRoot(int a) {
        BigInteger most = BigInteger.ONE.shiftLeft(48);
        BigInteger low = BigInteger.ZERO;
        BigInteger high = BigInteger.ONE.shiftLeft(25);
        while (high.subtract(low).compareTo(BigInteger.ONE) > 0) {
            BigInteger middle = low.add(high).shiftRight(1);
            if (middle.multiply(middle).multiply(big(a)).compareTo(most) <= 0) {
                low = middle;
            } else {
                high = middle;
            }
        }
        return low.intValueExact();
    }

    private static int part(int kind, int a, int b, int c) {
        switch (kind) {
            case 1: return a;
            case 2: return a + b;
            case 3: return a - b;
            case 4: return product(a, b);
            case 5: return product(a, b) + c;
            case 8: return Math.min(a, b);
            case 9: return Math.max(a, b);
            case 10: return (int) Math.min(Math.abs((long) a), Integer.MAX_VALUE);
            case 11: return a - bits(a, 0, 15);
            case 12: return bits(a, 0, 15);
            case 16: return a < b ? 65536 : 0;
            case 17: return a >= b ? 65536 : 0;
            case 18: return a == b ? 65536 : 0;
            case 19: return a != b ? 65536 : 0;
            case 20: return a >= 0 ? b : c;
            case 21: return product(a, b - c) + c;
            case 23: return a & b;
            case 24: return a | b;
            case 25: return a ^ b;
            case 26: return -1 - a;
            case 27: return big(a).shiftLeft(bits(b, 0, 4)).intValue();
            case 28: return big(a).shiftRight(bits(b, 0, 4)).intValue();
            case 29: return big(a & 0xFFFFFFFFL).shiftRight(bits(b, 0, 4)).intValue();
            case 39: return Math.floorDiv(a, 65536);
            case 40: return a * 65536;
            default: throw new AssertionError(kind);
        }
    }

    // ---- section 5

    private int[] texture(int unit, int s, int t, int l) {
        int levels = textures[unit][3];
        int filter = manners[unit][2];
        int lod = Math.max(0, Math.min(65536 * (levels - 1), l));
        int level = lod / 65536;
        boolean four = filter == 1 || filter == 3;
        int[] first = ofLevel(unit, level, s, t, four);
        if (filter < 2 || level + 1 >= levels) {
            return first;
        }
        return mixed(first, ofLevel(unit, level + 1, s, t, four), lod % 65536);
    }

    private static int[] mixed(int[] p, int[] q, int f) {
        int[] r = new int[4];
        for (int k = 0; k < 4; k++) {
            BigInteger more = down(big(q[k]).subtract(big(p[k])).multiply(big(f)), big(65536));
            r[k] = big(p[k]).add(more).intValueExact();
        }
        return r;
    }

    private int sizeOf(int log, int level) {
        int size = 1;
        for (int i = 0; i < log - level; i++) {
            size *= 2;
        }
        return size;
    }

    private int[] ofLevel(int unit, int level, int s, int t, boolean four) {
        int w = sizeOf(textures[unit][1], level);
        int h = sizeOf(textures[unit][2], level);
        BigInteger sw = big(s).multiply(big(w));
        BigInteger th = big(t).multiply(big(h));
        if (!four) {
            return texel(unit, level, down(sw, big(65536)).intValueExact(), down(th, big(65536)).intValueExact());
        }
        BigInteger bigU = sw.subtract(big(32768));
        BigInteger bigV = th.subtract(big(32768));
        int u = down(bigU, big(65536)).intValueExact();
        int v = down(bigV, big(65536)).intValueExact();
        int f = bigU.mod(big(65536)).intValueExact();
        int g = bigV.mod(big(65536)).intValueExact();
        int[] row = mixed(texel(unit, level, u, v), texel(unit, level, u + 1, v), f);
        int[] next = mixed(texel(unit, level, u, v + 1), texel(unit, level, u + 1, v + 1), f);
        return mixed(row, next, g);
    }

    private static int wrapped(int wrap, int i, int n) {
        switch (wrap) {
            case 0: return Math.floorMod(i, n);
            case 1: return Math.max(0, Math.min(n - 1, i));
            case 2:
                int j = Math.floorMod(i, 2 * n);
                return j < n ? j : 2 * n - 1 - j;
            default: return i >= 0 && i < n ? i : -1;
        }
    }

    private int[] texel(int unit, int level, int u, int v) {
        int[] t = textures[unit];
        int w = sizeOf(t[1], level);
        int h = sizeOf(t[2], level);
        int x = wrapped(manners[unit][0], u, w);
        int y = wrapped(manners[unit][1], v, h);
        if (x < 0 || y < 0) {
            return borders[unit].clone();
        }
        long number = 0;
        for (int l = 0; l < level; l++) {
            number += (long) sizeOf(t[1], l) * sizeOf(t[2], l);
        }
        number += (long) y * w + x;
        String[] formats = {"r8g8b8a8", "r5g6b5", "r4g4b4a4", "r5g5b5a1", "l8", "a8", "l8a8", "l4"};
        String format = formats[t[4]];
        int size = 0;
        for (int i = 0; i < format.length(); i += 2) {
            size += format.charAt(i + 1) - '0';
        }
        long bit = number * size;
        int[] r = {0, 0, 0, 65536};
        for (int i = 0; i < format.length(); i += 2) {
            int n = format.charAt(i + 1) - '0';
            int value = 0;
            for (int k = 0; k < n; k++) {
                value += (bit(mem(t[0] + (bit + k) / 32), (int) ((bit + k) % 32)) ? 1 : 0) << k;
            }
            bit += n;
            int fixed = (int) Math.floor(65536.0 * value / ((1 << n) - 1) + 0.5);
            if (format.charAt(i) == 'l') {
                r[0] = fixed;
                r[1] = fixed;
                r[2] = fixed;
            } else {
                r["rgba".indexOf(format.charAt(i))] = fixed;
            }
        }
        return r;
    }

    // ---- sections 3 and 7

    private int[] attribute(int n, int vertex) {
        int[] a = attributes[n];
        BigInteger p = big(a[0]).add(big(vertex).multiply(big(a[1])));
        int[] r = {0, 0, 0, 65536};
        for (int k = 0; k < a[2]; k++) {
            int word = mem(p.longValueExact());
            switch (a[3]) {
                case 0:
                    r[k] = mem(p.longValueExact() + k);
                    break;
                case 1:
                    r[k] = (65536 * bits(word, 8 * k, 8 * k + 7) + 127) / 255;
                    break;
                case 2: {
                    int half = bits(mem(p.longValueExact() + k / 2), 16 * (k % 2), 16 * (k % 2) + 15);
                    r[k] = (half >= 32768 ? half - 65536 : half) * 256;
                    break;
                }
                default: {
                    int b = bits(word, 8 * k, 8 * k + 7);
                    r[k] = (b >= 128 ? b - 256 : b) * 65536;
                    break;
                }
            }
        }
        return r;
    }

    private int vertex(int kind, int[] a, int n) {
        if (kind == 17) {
            return a[1] + n;
        }
        switch (a[3]) {
            case 0: return a[4] + mem(a[1] + n);
            case 1: return a[4] + bits(mem(a[1] + n / 2), 16 * (n % 2), 16 * (n % 2) + 15);
            default: return a[4] + bits(mem(a[1] + n / 4), 8 * (n % 4), 8 * (n % 4) + 7);
        }
    }

    private int draw(int kind, int[] a) {
        List<int[]> triangles = new ArrayList<>();
        if (a[0] == 0) {
            for (int v = 0; v + 2 < a[2]; v += 3) {
                triangles.add(new int[] {v, v + 1, v + 2});
            }
        } else {
            for (int t = 0; t + 2 < a[2]; t++) {
                if (a[0] == 2) {
                    triangles.add(new int[] {0, t + 1, t + 2});
                } else {
                    triangles.add(t % 2 == 0 ? new int[] {t, t + 1, t + 2} : new int[] {t + 1, t, t + 2});
                }
            }
        }
        BigInteger more = steps(cornersProgram).multiply(big(3))
            .add(steps(placesProgram).multiply(big((long) wide * high))).multiply(big(triangles.size()));
        if (work.add(more).compareTo(big(1 << 23)) > 0) {
            return 8;
        }
        work = work.add(more);
        for (int[] triangle : triangles) {
            counts[0]++;
            List<int[][]> corners = new ArrayList<>();
            for (int n : triangle) {
                int[][] ins = new int[8][];
                for (int i = 0; i < 8; i++) {
                    ins[i] = attribute(i, vertex(kind, a, n));
                }
                corners.add(runProgram(cornersProgram, ins));
            }
            corners = cutOff(cutOff(corners, true), false);
            for (int k = 1; k + 1 < corners.size(); k++) {
                counts[1]++;
                made(corners.get(0), corners.get(k), corners.get(k + 1));
            }
        }
        return 0;
    }

    private static BigInteger insideOf(int[][] corner, boolean near) {
        return near ? big(corner[0][2]).add(big(corner[0][3])) : big(corner[0][3]).subtract(big(256));
    }

    private static List<int[][]> cutOff(List<int[][]> corners, boolean near) {
        List<int[][]> left = new ArrayList<>();
        for (int i = 0; i < corners.size(); i++) {
            int[][] here = corners.get(i);
            int[][] next = corners.get((i + 1) % corners.size());
            boolean in = insideOf(here, near).signum() >= 0;
            boolean nextIn = insideOf(next, near).signum() >= 0;
            if (in) {
                left.add(here);
            }
            if (in != nextIn) {
                int[][] inner = in ? here : next;
                int[][] outer = in ? next : here;
                BigInteger a = insideOf(inner, near);
                BigInteger b = insideOf(outer, near);
                BigInteger f = down(a.multiply(big(65536)), a.subtract(b));
                int[][] fresh = new int[8][4];
                for (int k = 0; k < 32; k++) {
                    BigInteger of = big(inner[k / 4][k % 4]);
                    BigInteger less = big(outer[k / 4][k % 4]).subtract(of);
                    fresh[k / 4][k % 4] = of.add(down(less.multiply(f), big(65536))).intValueExact();
                }
                left.add(fresh);
            }
        }
        return left.size() < 3 ? new ArrayList<>() : left;
    }

    /** X, Y, depth and Q of a corner. */
    private long[] laid(int[][] corner) {
        BigInteger w = big(corner[0][3]);
        BigInteger one = big(65536);
        BigInteger[] v = new BigInteger[3];
        for (int k = 0; k < 3; k++) {
            v[k] = down(big(corner[0][k]).multiply(one), w).add(one);
        }
        BigInteger x = big(16L * view[0]).add(down(v[0].multiply(big(view[2])), big(8192)));
        BigInteger y = big(16L * view[1]).add(down(v[1].multiply(big(view[3])), big(8192)));
        BigInteger z = big(view[4]).add(down(v[2].multiply(big(view[5] - view[4])), big(131072)));
        BigInteger q = down(BigInteger.ONE.shiftLeft(30), w).max(BigInteger.ONE);
        return new long[] {
            cut(x, -16384, 16383).longValueExact(), cut(y, -16384, 16383).longValueExact(),
            cut(z, 0, 16777215).longValueExact(), q.longValueExact()};
    }

    private void made(int[][] c0, int[][] c1, int[][] c2) {
        long[] l0 = laid(c0);
        long[] l1 = laid(c1);
        long[] l2 = laid(c2);
        long area = (l1[0] - l0[0]) * (l2[1] - l0[1]) - (l2[0] - l0[0]) * (l1[1] - l0[1]);
        boolean front = faces[1] == 1 ? area < 0 : area > 0;
        boolean leftOut = area == 0 || faces[0] == 3 || faces[0] == 1 && front || faces[0] == 2 && !front;
        if (leftOut) {
            return;
        }
        counts[2]++;
        int[][][] corners = area < 0 ? new int[][][] {c0, c2, c1} : new int[][][] {c0, c1, c2};
        long[][] laid = area < 0 ? new long[][] {l0, l2, l1} : new long[][] {l0, l1, l2};
        for (int y = 0; y < high; y++) {
            for (int x = 0; x < wide; x++) {
                long[] weights = covered(laid, 16 * x + 8, 16 * y + 8);
                if (weights != null) {
                    counts[8]++;
                    place(x, y, corners, laid, weights, Math.abs(area), front);
                }
            }
        }
    }

    private static long[] covered(long[][] laid, long x, long y) {
        long[] weights = new long[3];
        for (int j = 0; j < 3; j++) {
            long[] from = laid[(j + 1) % 3];
            long[] to = laid[(j + 2) % 3];
            weights[j] = (to[0] - from[0]) * (y - from[1]) - (to[1] - from[1]) * (x - from[0]);
            boolean top = to[1] == from[1] && to[0] > from[0];
            boolean left = to[1] < from[1];
            if (weights[j] < 0 || weights[j] == 0 && !top && !left) {
                return null;
            }
        }
        return weights;
    }

    private void place(int x, int y, int[][][] corners, long[][] laid, long[] weights, long area, boolean front) {
        BigInteger deep = BigInteger.ZERO;
        for (int j = 0; j < 3; j++) {
            deep = deep.add(big(weights[j]).multiply(big(laid[j][2])));
        }
        int newDepth = down(deep, big(area)).intValueExact();
        BigInteger[] shares = new BigInteger[3];
        for (int s = 0;; s++) {
            boolean below = true;
            for (int j = 0; j < 3; j++) {
                shares[j] = big(weights[j]).multiply(big(laid[j][3])).shiftRight(s);
                below &= shares[j].compareTo(big(1 << 29)) < 0;
            }
            if (below) {
                break;
            }
        }
        BigInteger allShares = shares[0].add(shares[1]).add(shares[2]);
        int[][] ins = new int[8][4];
        ins[0] = new int[] {65536 * x + 32768, 65536 * y + 32768, newDepth, front ? 65536 : 0};
        for (int k = 4; k < 32; k++) {
            BigInteger v = BigInteger.ZERO;
            for (int j = 0; j < 3; j++) {
                v = v.add(shares[j].multiply(big(corners[j][k / 4][k % 4])));
            }
            ins[k / 4][k % 4] = down(v, allShares).intValueExact();
        }
        int[][] outs = runProgram(placesProgram, ins);
        if (outs == null) {
            counts[7]++;
            return;
        }
        int answer = drawPlace(x, y, newDepth, front ? 0 : 1, outs[0]);
        counts[3 + answer]++;
        if (answer == 3 && openQuery != NONE) {
            queries[openQuery]++;
        }
    }

    // ---- section 6

    private boolean isOpen(int x, int y) {
        return scissors[2] < scissors[0]
            || scissors[0] <= x && x < scissors[2] && scissors[1] <= y && y < scissors[3];
    }

    private static boolean test(int test, int a, int b) {
        boolean[] answers = {false, a < b, a == b, a <= b, a > b, a != b, a >= b, true};
        return answers[test];
    }

    private static int writeBits(int old, int fresh, int bits) {
        int r = 0;
        for (int n = 0; n < 8; n++) {
            r += (bit(bits, n) ? bits(fresh, n, n) : bits(old, n, n)) << n;
        }
        return r;
    }

    private void deed(int x, int y, int[] rule, int which) {
        if (rule[0] == -1) {
            return;
        }
        int s = stencil[y][x];
        int[] results = {s, 0, rule[1], Math.min(s + 1, 255), Math.max(s - 1, 0), 255 - s,
            s == 255 ? 0 : s + 1, s == 0 ? 255 : s - 1};
        stencil[y][x] = writeBits(s, results[rule[4 + which]], rule[3]);
    }

    private int drawPlace(int x, int y, int newDepth, int side, int[] fixed) {
        int[] s = new int[4];
        for (int k = 0; k < 4; k++) {
            s[k] = (255 * Math.max(0, Math.min(65536, fixed[k])) + 32768) / 65536;
        }
        if (!isOpen(x, y)) {
            return 0;
        }
        int[] rule = stencilRules[side];
        if (rule[0] != -1 && !test(rule[0], rule[1] & rule[2], stencil[y][x] & rule[2])) {
            deed(x, y, rule, 0);
            return 1;
        }
        if (depthRule[0] != -1 && !test(depthRule[0], newDepth, depth[y][x])) {
            deed(x, y, rule, 1);
            return 2;
        }
        deed(x, y, rule, 2);
        if (depthRule[0] != -1 && depthRule[1] == 1) {
            depth[y][x] = newDepth;
        }
        int[] d = colour[y][x].clone();
        for (int k = 0; k < 4; k++) {
            int fresh = s[k];
            if (logic != -1) {
                fresh = 0;
                for (int n = 0; n < 8; n++) {
                    fresh += bits(logic, 2 * bits(s[k], n, n) + bits(d[k], n, n), 2 * bits(s[k], n, n) + bits(d[k], n, n)) << n;
                }
            } else if (blend[4] != -1) {
                fresh = blended(k, s, d);
            }
            if (bit(mask, k)) {
                colour[y][x][k] = fresh;
            }
        }
        return 3;
    }

    private int factor(int number, int k, int[] s, int[] d) {
        int c = bits(constant, 8 * k, 8 * k + 7);
        int ca = bits(constant, 24, 31);
        int[] all = {0, 255, s[k], 255 - s[k], d[k], 255 - d[k], s[3], 255 - s[3], d[3], 255 - d[3], c, 255 - c,
            ca, 255 - ca, k == 3 ? 255 : Math.min(s[3], 255 - d[3])};
        return all[number];
    }

    private int blended(int k, int[] s, int[] d) {
        int bigS = s[k] * factor(blend[k == 3 ? 2 : 0], k, s, d);
        int bigD = d[k] * factor(blend[k == 3 ? 3 : 1], k, s, d);
        switch (blend[k == 3 ? 5 : 4]) {
            case 0: return nearest(bigS + bigD);
            case 1: return nearest(bigS - bigD);
            case 2: return nearest(bigD - bigS);
            case 3: return Math.min(s[k], d[k]);
            default: return Math.max(s[k], d[k]);
        }
    }

    private static int nearest(int v) {
        return (int) Math.max(0, Math.min(255, Math.floor(v / 255.0 + 0.5)));
    }

    private void clear(int[] a) {
        for (int y = 0; y < high; y++) {
            for (int x = 0; x < wide; x++) {
                if (!isOpen(x, y)) {
                    continue;
                }
                for (int k = 0; k < 4; k++) {
                    if (bit(a[0], 0) && bit(mask, k)) {
                        colour[y][x][k] = bits(a[1], 8 * k, 8 * k + 7);
                    }
                }
                if (bit(a[0], 1) && (depthRule[0] == -1 || depthRule[1] == 1)) {
                    depth[y][x] = a[2];
                }
                if (bit(a[0], 2)) {
                    stencil[y][x] = writeBits(stencil[y][x], a[3], stencilRules[0][0] == -1 ? 255 : stencilRules[0][3]);
                }
            }
        }
    }
}
