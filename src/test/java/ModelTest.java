import java.lang.reflect.Method;
import java.util.ArrayList;
import java.util.Arrays;
import java.util.List;
import java.util.Random;

/** Long runs of calls, the same ones each time, on the class and on the plain model: the answers must be alike. */
public final class ModelTest {
    private static final int RUNS = 600;
    private static final int CALLS = 511; // and a last digest(): the 512 that the document speaks of
    private static final int[] WILD = {Integer.MIN_VALUE, Integer.MAX_VALUE, -1, 0, 1 << 30, -1 << 30, 46341, 65536};
    private static final Check c = new Check("ModelTest");

    /** A call's name, how often it is made, and of each argument the least and the most that is right. */
    private static final class Kind {
        private final Method ours;
        private final Method models;
        private final int[] ranges;

        private Kind(String name, int... ranges) throws NoSuchMethodException {
            Class<?>[] parameters = new Class<?>[ranges.length / 2];
            Arrays.fill(parameters, int.class);
            this.ours = GallopingRing.class.getMethod(name, parameters);
            this.models = Model.class.getMethod(name, parameters);
            this.ranges = ranges;
        }
    }

    private static final List<Kind> kinds = new ArrayList<>();

    private static void kind(int often, String name, int... ranges) throws NoSuchMethodException {
        for (int i = 0; i < often; i++) {
            kinds.add(new Kind(name, ranges));
        }
    }

    public static void main(String[] args) throws ReflectiveOperationException {
        kind(6, "horse", 0, 11, 1, 200, 0, 99);
        kind(2, "leave", 0, 11);
        kind(3, "sit", 0, 11, 1, 150);
        kind(1, "rise", 0, 11);
        kind(1, "shake");
        kind(1, "rising");
        kind(1, "may");
        kind(1, "law", 0, 1, 0, 5000);
        kind(2, "best", 1, 150);
        kind(3, "group", 1, 3, 1, 150, 1, 150, 1, 150);
        kind(1, "rider", 0, 11);
        kind(4, "coat", 0, 11, 0, 4);
        kind(2, "sample", 0, 11, 0, 7);
        kind(2, "strip", 0, 11, 0, 4);
        kind(4, "swap", 0, 11, 0, 3, 0, 11, 0, 3);
        kind(1, "mark", 0, 11, 0, 3);
        kind(1, "swaps");
        kind(1, "find", 0, 11, 0, 3);
        kind(1, "fair", 0, 40, 0, 60, 0, 3);
        kind(1, "fair", 0, 400, 0, 400, 0, 10000);
        kind(2, "road", 0, 7, 0, 7, 0, 20);
        kind(1, "earns");
        kind(2, "round", 0, 4);
        kind(4, "turn");
        kind(1, "look");
        kind(1, "hours", 1, 3);
        kind(3, "come", 1, 150);
        kind(3, "next");
        kind(1, "book", 0, 10);
        kind(2, "count", 0, 7);
        kind(2, "digest");
        for (int run = 0; run < RUNS; run++) {
            compare(run);
        }
        c.finish();
    }

    private static int argument(Random random, int least, int most) {
        int dice = random.nextInt(100);
        if (dice < 85) return least + random.nextInt(most - least + 1);
        if (dice < 90) return least;
        if (dice < 95) return most;
        if (dice < 97) return least - 1;
        if (dice < 99) return most + 1;
        return WILD[random.nextInt(WILD.length)];
    }

    private static void compare(int run) throws ReflectiveOperationException {
        Random random = new Random(7919L * run + 1);
        GallopingRing ours = new GallopingRing();
        Model model = new Model();
        for (int call = 0; call < CALLS; call++) {
            Kind kind = kinds.get(random.nextInt(kinds.size()));
            Object[] arguments = new Object[kind.ranges.length / 2];
            for (int i = 0; i < arguments.length; i++) {
                arguments[i] = argument(random, kind.ranges[2 * i], kind.ranges[2 * i + 1]);
            }
            // The law is loose in most runs, or nearly all RIDERS would be BLOCKED.
            if (kind.ours.getName().equals("law") && run % 4 != 0 && random.nextInt(10) > 0) {
                continue;
            }
            long got = ((Number) kind.ours.invoke(ours, arguments)).longValue();
            long want = ((Number) kind.models.invoke(model, arguments)).longValue();
            c.due("run " + run + ", call " + call + ": " + kind.ours.getName() + Arrays.toString(arguments), got, want);
        }
        c.due("run " + run + ": the last digest()", ours.digest(), model.digest());
    }
}
