import java.lang.reflect.InvocationTargetException;
import java.lang.reflect.Method;
import java.util.ArrayList;
import java.util.Arrays;
import java.util.List;

/** A run of calls, told as texts such as "horse 0 100 5"; each look makes it anew, on an object of its own. */
final class Given {
    private static final int MOST_CALLS = 512;
    private static final int MOST_PRINTED = 12;

    private final Check check;
    private final List<String> calls;

    private Given(Check check, List<String> calls) {
        this.check = check;
        this.calls = calls;
    }

    static Given nothing(Check check) {
        return new Given(check, new ArrayList<>());
    }

    Given then(String... more) {
        return times(1, more);
    }

    Given times(int often, String... more) {
        List<String> longer = new ArrayList<>(calls);
        for (int i = 0; i < often; i++) {
            longer.addAll(Arrays.asList(more));
        }
        return new Given(check, longer);
    }

    /** The call, made behind the run, has this answer. */
    Given answers(String call, long want) {
        check.due(told(call), make(made(1), call), want);
        return this;
    }

    /** It has this answer, and all is told as by an object that was spared the call. */
    Given keeps(String call, long want) {
        GallopingRing x = made(1 + Told.CALLS);
        check.due(told(call), make(x, call), want);
        check.same("what is told " + told(call), Told.of(x), Told.of(made(Told.CALLS)));
        return this;
    }

    /** The call is the 512th, the last one that the document speaks of. */
    Given answersAtLast(String call, long want) {
        check.due("calls made of one object", calls.size() + 1, MOST_CALLS);
        return answers(call, want);
    }

    List<String> calls() {
        return calls;
    }

    static long make(Object x, String call) {
        String[] words = call.split(" ");
        Class<?>[] types = new Class<?>[words.length - 1];
        Object[] arguments = new Object[words.length - 1];
        for (int i = 0; i < arguments.length; i++) {
            types[i] = int.class;
            arguments[i] = Integer.parseInt(words[i + 1]);
        }
        try {
            Method method = x.getClass().getMethod(words[0], types);
            return ((Number) method.invoke(x, arguments)).longValue();
        } catch (InvocationTargetException thrown) {
            throw new IllegalStateException(call + " threw", thrown.getCause());
        } catch (ReflectiveOperationException wrong) {
            throw new IllegalStateException("no such call: " + call, wrong);
        }
    }

    private GallopingRing made(int callsToCome) {
        if (calls.size() + callsToCome > MOST_CALLS) {
            throw new IllegalStateException("no promise holds beyond " + MOST_CALLS + " calls");
        }
        GallopingRing x = new GallopingRing();
        for (String call : calls) {
            make(x, call);
        }
        return x;
    }

    private String told(String call) {
        int skipped = Math.max(0, calls.size() - MOST_PRINTED);
        String gap = skipped > 0 ? skipped + " calls more, " : "";
        return "behind " + gap + calls.subList(skipped, calls.size()) + " " + call;
    }
}
