import java.util.ArrayList;
import java.util.List;

/**
 * All promises: made-up scenes, each within 512 calls, answered by the class and by the model alike.
 * Arguments: the first seed, and how many scenes (both have a default, so that each run is the same).
 */
final class AgainstModelTest {
    private static final int[] REFUSALS = new int[9];
    private static final int[] FAULTS = new int[9];

    public static void main(String[] args) {
        long seed = args.length > 0 ? Long.parseLong(args[0]) : 1;
        int scenes = args.length > 1 ? Integer.parseInt(args[1]) : 1000;
        Checks checks = new Checks("AgainstModelTest");
        int[] all = new int[9];
        for (int i = 0; i < scenes && !checks.isWrong(); i++) {
            Both both = scene(checks, seed + i);
            for (int what = 0; what < 9; what++) {
                all[what] += both.model.count(what);
            }
        }
        System.out.println("  counted in all: " + java.util.Arrays.toString(all));
        System.out.println("  refusals: " + java.util.Arrays.toString(REFUSALS));
        System.out.println("  faults: " + java.util.Arrays.toString(FAULTS));
        checks.finish();
    }

    private static Both scene(Checks checks, long seed) {
        Scenes scenes = new Scenes(seed, seed % 3 == 0 ? 40 : 0);
        Both both = new Both(checks, "scene " + seed);
        int wide = scenes.among(1, 16);
        int high = scenes.among(1, 16);
        scenes.wide = wide;
        scenes.high = high;
        both.frame(wide, high, scenes.pick(8, 16, 32, 64));
        storeAll(both, scenes.memoryWords());
        List<Integer> words = new ArrayList<>();
        scenes.opening(words, wide, high);
        int commands = scenes.among(5, 60);
        for (int i = 0; i < commands; i++) {
            scenes.command(words);
        }
        both.feedAll(words.subList(0, Math.min(words.size(), 600)));
        while (both.hasRoomFor(60)) {
            step(both, scenes);
        }
        both.compareState();
        return both;
    }

    private static void storeAll(Both both, List<Integer> words) {
        List<Integer> stream = new ArrayList<>();
        for (int i = 0; i < words.size(); i += 256) {
            List<Integer> some = words.subList(i, Math.min(words.size(), i + 256));
            stream.add(21);
            stream.add(i);
            stream.add(some.size());
            stream.addAll(some);
        }
        both.feedAll(stream);
        both.run(100);
        both.end(0);
    }

    private static void step(Both both, Scenes scenes) {
        switch (scenes.among(0, 17)) {
            case 0:
                if (scenes.oneIn(4)) {
                    both.frame(scenes.among(1, 17), scenes.among(1, 17), scenes.pick(8, 16, 32, 64));
                    scenes.wide = both.model.wide;
                    scenes.high = both.model.high;
                }
                break;
            case 1:
                both.word(scenes.pick(scenes.among(0, Scenes.BEHIND), scenes.among(-2, 4098)), scenes.anyWord());
                break;
            case 2:
                both.begin(!scenes.oneIn(4));
                break;
            case 3:
                if (scenes.oneIn(3)) {
                    both.end(scenes.among(0, both.model.stream.size()));
                }
                break;
            case 4: {
                List<Integer> more = new ArrayList<>();
                scenes.command(more);
                both.feedAll(more);
                break;
            }
            case 5:
            case 6:
                both.look(scenes.among(-1, 4096));
                both.at(scenes.among(-1, 13), scenes.among(-1, 13), scenes.among(-1, 3));
                break;
            case 7:
                both.compareState();
                break;
            default:
                both.run(scenes.among(scenes.oneIn(10) ? -1 : 0, 6));
                both.about(scenes.among(0, 8));
                both.sum(scenes.among(0, 2));
                if (both.model.over) {
                    REFUSALS[both.model.refused]++;
                    FAULTS[both.model.refused == 4 ? both.model.fault : 0]++;
                    both.begin(true);
                    // Going on behind a refusal needs another command in its place.
                    goPast(both, scenes);
                }
                break;
        }
    }

    private static void goPast(Both both, Scenes scenes) {
        if (both.model.stream.size() > 20 && scenes.oneIn(2)) {
            int keep = scenes.among(0, both.model.stream.size() / 2);
            both.end(0);
            List<Integer> words = new ArrayList<>();
            scenes.opening(words, both.model.wide, both.model.high);
            for (int i = 0; i < 4 + keep % 5; i++) {
                scenes.command(words);
            }
            if (both.hasRoomFor(60 + words.size() / 5)) {
                both.feedAll(words);
            }
        }
    }
}
