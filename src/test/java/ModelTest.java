import java.lang.reflect.InvocationTargetException;
import java.lang.reflect.Method;
import java.util.Arrays;

/**
 * Long runs of made-up calls, wrong ones among them, on Bags and on Model: each answer, each exception
 * and behind each call the digest and the texts of all bags must be alike.
 * An argument tells another number of runs.
 */
public final class ModelTest {
    private static final int CALLS = 500;

    /** The calls, each with the kinds of what it is given. */
    private static final String[] CHANGES = {
        "put bnc", "put bnc", "put bnc", "take bnc", "tell bnC", "place bncf", "swap bnss", "poll bf", "pick bf",
        "clear b", "fill bnntc", "fill bnntc", "copy bb", "combine bbbh", "combine bbbh", "sift bbf", "purge bs",
        "thin bm", "grow bm", "shift bn", "turn b", "mend bbc", "mend bbc",
        "lens b3nn", "lens b3nn", "lensPut bnc", "lensPut bnc", "lensTake bn", "lensPoll b", "lensClear b",
        "walk b", "step", "step", "step", "stepSet c", "window l", "flow n", "flow n", "flow n", "flow n",
        "pour b", "leave n", "pull f", "oldest", "harvest b", "none", "knock",
    };
    private static final String[] QUESTIONS = {
        "ofLens b5", "lensCount bn", "ofWalk 5", "ofWindow w", "holds n", "halves", "wouldFlow n", "ofBag bw",
        "count bn", "rank bn", "select bp", "within bnnf", "near bn4", "share bkv5", "shares bk", "isIn bb",
        "isSame bb", "distance bb", "would bbhf", "text bf", "hasCount bs", "books 4", "isSound", "digest",
    };

    private long seed;
    private int reach;
    private int most;

    private ModelTest(long seed) {
        this.seed = seed * 7919 + 17;
        int[] reaches = {3, 12, 40, 120, 999};
        int[] mosts = {2, 6, 100, 400000, 1000000};
        reach = reaches[below(reaches.length)];
        most = mosts[below(mosts.length)];
    }

    private int below(int bound) {
        seed = seed * 6364136223846793005L + 1442695040888963407L;
        return (int) ((seed >>> 33) % bound);
    }

    private int between(int least, int greatest) {
        return least + below(greatest - least + 1);
    }

    /** Mostly what is allowed, now and then one that is just outside or far off. */
    private int edgy(int least, int greatest) {
        int[] odd = {least - 1, greatest + 1, Integer.MIN_VALUE, Integer.MAX_VALUE};
        return below(40) == 0 ? odd[below(4)] : between(least, greatest);
    }

    private int number() {
        if (below(60) == 0) {
            return new int[] {-999, 999, -1000, 1000, Integer.MIN_VALUE, Integer.MAX_VALUE}[below(6)];
        }
        return between(-reach, reach);
    }

    private int count(int least) {
        if (below(50) == 0) {
            return new int[] {0, -1, 1000000, 1000001, Integer.MIN_VALUE, Integer.MAX_VALUE}[below(6)];
        }
        return between(least, below(2) == 0 ? Math.min(most, 4) : most);
    }

    private Object argument(char kind, Bags asked) {
        switch (kind) {
            case 'b':
                return edgy(0, 3);
            case 'n':
                return number();
            case 'c':
                return count(1);
            case 'C':
                return count(0);
            case 's':
                return below(4) == 0 ? count(1) : between(1, 4);
            case 't':
                return below(3) == 0 ? edgy(1, 999) : between(1, 1 + reach / 6);
            case 'm':
                return below(3) == 0 ? edgy(2, 1000) : between(2, 4);
            case 'h':
                return edgy(0, 4);
            case 'l':
                return edgy(1, 30);
            case 'w':
                return edgy(0, 10);
            case 'k':
                return edgy(1, 20);
            case 'v':
                return below(2) == 0 ? edgy(0, 19) : between(0, 2);
            case 'p':
                return edgy(0, (int) asked.ofBag(below(4), 0));
            case 'f':
                return below(2) == 0;
            default:
                return edgy(0, kind - '0' - 1);
        }
    }

    private static Method methodOf(Class<?> of, String name) {
        for (Method method : of.getDeclaredMethods()) {
            if (method.getName().equals(name) && java.lang.reflect.Modifier.isPublic(method.getModifiers())) {
                return method;
            }
        }
        throw new IllegalStateException("no method " + name + " in " + of);
    }

    private static Object answer(Object on, String name, Object[] arguments) throws Exception {
        Method method = methodOf(on.getClass(), name);
        method.setAccessible(true);
        try {
            return method.invoke(on, arguments);
        } catch (InvocationTargetException e) {
            return "throws " + e.getCause().getClass().getName();
        }
    }

    private static String state(Object on) throws Exception {
        StringBuilder state = new StringBuilder();
        for (int bag = 0; bag < 4; bag++) {
            state.append(answer(on, "text", new Object[] {bag, false})).append(" / ");
        }
        state.append(answer(on, "halves", new Object[0])).append(" / ");
        return state.append(answer(on, "digest", new Object[0])).toString();
    }

    private boolean run(int number) throws Exception {
        Bags bags = new Bags();
        Model model = new Model();
        for (int call = 0; call < CALLS; call++) {
            String[] calls = below(3) == 0 ? QUESTIONS : CHANGES;
            String[] told = calls[below(calls.length)].split(" ");
            String kinds = told.length > 1 ? told[1] : "";
            Object[] arguments = new Object[kinds.length()];
            for (int i = 0; i < arguments.length; i++) {
                arguments[i] = argument(kinds.charAt(i), bags);
            }
            Object got = answer(bags, told[0], arguments);
            Object due = answer(model, told[0], arguments);
            String made = "run " + number + ", call " + call + ": " + told[0] + Arrays.toString(arguments);
            if (!due.equals(got)) {
                System.out.println(made + " answered " + got + ", due is " + due);
                return false;
            }
            String stands = state(bags);
            String shouldStand = state(model);
            if (!shouldStand.equals(stands)) {
                System.out.println(made + " left " + stands + ", due is " + shouldStand);
                return false;
            }
        }
        return true;
    }

    public static void main(String[] arguments) throws Exception {
        int runs = arguments.length > 0 ? Integer.parseInt(arguments[0]) : 100;
        int wrong = 0;
        for (int number = 0; number < runs; number++) {
            if (!new ModelTest(number).run(number)) {
                wrong++;
            }
        }
        System.out.println("ModelTest: " + (runs - wrong) + " runs as due, " + wrong + " not");
        if (wrong > 0) {
            System.exit(1);
        }
    }
}
