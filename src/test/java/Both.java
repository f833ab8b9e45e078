import java.util.ArrayList;
import java.util.List;
import java.util.function.IntSupplier;

/** The class and the model side by side: each call goes to both, and their answers must be alike. */
final class Both {
    final DrawingMachine machine = new DrawingMachine();
    final Model model = new Model();
    private final Checks checks;
    private final String name;
    private int calls;

    Both(Checks checks, String name) {
        this.checks = checks;
        this.name = name;
    }

    /** What is promised ends with the 512th call. */
    boolean hasRoomFor(int more) {
        return calls + more <= 512;
    }

    private int compare(String call, IntSupplier ofMachine, IntSupplier ofModel) {
        calls++;
        if (calls > 512) {
            throw new AssertionError(name + " goes beyond 512 calls");
        }
        String want = answer(ofModel);
        checks.due(name + ", call " + calls + ": " + call, answer(ofMachine), want);
        try {
            return Integer.parseInt(want);
        } catch (NumberFormatException e) {
            return 0;
        }
    }

    private static String answer(IntSupplier call) {
        try {
            return Integer.toString(call.getAsInt());
        } catch (RuntimeException e) {
            return "throws." + e.getClass().getSimpleName();
        }
    }

    int frame(int wide, int high, int side) {
        return compare("frame(" + wide + ", " + high + ", " + side + ")",
            () -> machine.frame(wide, high, side), () -> model.frame(wide, high, side));
    }

    int word(int place, int v) {
        return compare("word(" + place + ", " + v + ")", () -> machine.word(place, v), () -> model.word(place, v));
    }

    int look(int place) {
        return compare("look(" + place + ")", () -> machine.look(place), () -> model.look(place));
    }

    int feed(int a, int b, int c, int d, int e) {
        return compare("feed(" + a + ", " + b + ", " + c + ", " + d + ", " + e + ")",
            () -> machine.feed(a, b, c, d, e), () -> model.feed(a, b, c, d, e));
    }

    void end(int n) {
        compare("end(" + n + ")", () -> nothing(() -> machine.end(n)), () -> nothing(() -> model.end(n)));
    }

    void begin(boolean keeps) {
        compare("begin(" + keeps + ")", () -> nothing(() -> machine.begin(keeps)), () -> nothing(() -> model.begin(keeps)));
    }

    int run(int n) {
        return compare("run(" + n + ")", () -> machine.run(n), () -> model.run(n));
    }

    int about(int what) {
        return compare("about(" + what + ")", () -> machine.about(what), () -> model.about(what));
    }

    int at(int x, int y, int what) {
        return compare("at(" + x + ", " + y + ", " + what + ")", () -> machine.at(x, y, what), () -> model.at(x, y, what));
    }

    int sum(int what) {
        return compare("sum(" + what + ")", () -> machine.sum(what), () -> model.sum(what));
    }

    int query(int n) {
        return compare("query(" + n + ")", () -> machine.query(n), () -> model.query(n));
    }

    int count(int what) {
        return compare("count(" + what + ")", () -> machine.count(what), () -> model.count(what));
    }

    private static int nothing(Runnable call) {
        call.run();
        return 0;
    }

    /** Feeds words, and FLUSHes behind them up to a multiple of five. */
    void feedAll(List<Integer> words) {
        List<Integer> all = new ArrayList<>(words);
        while (all.size() % 5 != 0) {
            all.add(22);
        }
        for (int i = 0; i < all.size(); i += 5) {
            feed(all.get(i), all.get(i + 1), all.get(i + 2), all.get(i + 3), all.get(i + 4));
        }
    }

    /** Asks for all that can be told in few calls. */
    void compareState() {
        for (int what = 0; what < 9; what++) {
            about(what);
            count(what);
        }
        for (int n = 0; n < 8; n++) {
            query(n);
        }
        for (int what = 0; what < 3; what++) {
            sum(what);
        }
    }
}
