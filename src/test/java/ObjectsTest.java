import java.lang.reflect.Method;
import java.lang.reflect.Modifier;
import java.util.ArrayList;
import java.util.List;
import java.util.Random;

/** What holds for every object, whatever is called: it stands alone, its answers are always the same, no call throws. */
public final class ObjectsTest {
    private static final int RUNS = 40;
    private static final int MOST_CALLS = 512;
    private static final int CALLS_BEHIND = 5000;
    private static final int[] WILD = {Integer.MIN_VALUE, Integer.MAX_VALUE, -1, 1 << 28, 1 << 29, 1 << 30, -1 << 30};
    private static final Check c = new Check("ObjectsTest");

    public static void main(String[] args) {
        for (int run = 0; run < RUNS; run++) {
            sameAnswers(run);
            standsAlone(run);
        }
        newBesideOthers();
        behindTheLast();
        c.finish();
    }

    /** LANGUAGE.md, rule 13: the same calls always give the same answers. */
    private static void sameAnswers(int run) {
        List<String> calls = calls(run, MOST_CALLS);
        c.same("run " + run + " made again", answers(calls).toString(), answers(calls).toString());
    }

    /** Rule 5: no state but that of the object; calls of another one in between are not seen. */
    private static void standsAlone(int run) {
        List<String> calls = calls(run, MOST_CALLS);
        List<String> others = calls(run + RUNS, MOST_CALLS);
        GallopingRing one = new GallopingRing();
        GallopingRing other = new GallopingRing();
        List<Long> ofOne = new ArrayList<>();
        List<Long> ofOther = new ArrayList<>();
        for (int i = 0; i < MOST_CALLS; i++) {
            ofOne.add(Given.make(one, calls.get(i)));
            ofOther.add(Given.make(other, others.get(i)));
        }
        c.same("run " + run + " beside another", ofOne.toString(), answers(calls).toString());
        c.same("the other one beside run " + run, ofOther.toString(), answers(others).toString());
    }

    private static void newBesideOthers() {
        String told = Told.of(new GallopingRing());
        for (int run = 0; run < RUNS; run++) {
            answers(calls(run, MOST_CALLS));
            c.same("a new object behind run " + run, Told.of(new GallopingRing()), told);
        }
    }

    private static void behindTheLast() {
        c.sentence("what later calls answer is free");
        // Free, but they end, and do not throw (rule 7): make() ends this test if one does.
        for (int run = 0; run < RUNS; run++) {
            List<String> calls = calls(run, MOST_CALLS + CALLS_BEHIND);
            c.due("calls of run " + run + " that were answered", answers(calls).size(), calls.size());
        }
    }

    private static List<Long> answers(List<String> calls) {
        GallopingRing x = new GallopingRing();
        List<Long> answers = new ArrayList<>();
        for (String call : calls) {
            answers.add(Given.make(x, call));
        }
        return answers;
    }

    private static List<String> calls(int seed, int number) {
        Random random = new Random(104729L * seed + 3);
        List<Method> methods = new ArrayList<>();
        for (Method method : GallopingRing.class.getDeclaredMethods()) {
            if (Modifier.isPublic(method.getModifiers())) {
                methods.add(method);
            }
        }
        methods.sort((one, other) -> one.getName().compareTo(other.getName()));
        List<String> calls = new ArrayList<>();
        for (int i = 0; i < number; i++) {
            Method method = methods.get(random.nextInt(methods.size()));
            StringBuilder call = new StringBuilder(method.getName());
            for (int k = 0; k < method.getParameterCount(); k++) {
                call.append(' ').append(argument(random));
            }
            calls.add(call.toString());
        }
        return calls;
    }

    private static int argument(Random random) {
        int dice = random.nextInt(20);
        if (dice < 13) return random.nextInt(4);
        if (dice < 17) return random.nextInt(13);
        if (dice < 19) return random.nextInt(200);
        return WILD[random.nextInt(WILD.length)];
    }
}
