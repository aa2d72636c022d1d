/** What the tests share: answers held against what is due, calls that must throw, and objects made ready. */
abstract class Checks {
    static final int NONE = -9999;
    static final int FULL = 1000000;
    static final long LARGEST_SIZE = 40000000;

    interface Call {
        void make();
    }

    interface On {
        void make(Bags x);
    }

    interface Told {
        void make(Bags x, int told);
    }

    enum Thrown { INDEX, ARGUMENT, STATE, OTHER, NOTHING }

    private static int checks = 0;
    private static int wrong = 0;
    private static String place = "";

    /** What is tested from here on; it is told with each answer that is not as due. */
    static void testing(String newPlace) {
        place = newPlace;
    }

    static void fail(String why) {
        wrong++;
        System.out.println(place + ": " + why);
    }

    static void due(Object got, Object want) {
        checks++;
        if (!want.equals(got)) {
            fail("line " + lineOfTest() + ": answered " + shown(got) + ", due is " + shown(want));
        }
    }

    private static String shown(Object answer) {
        String all = answer.toString();
        return all.length() > 400 ? all.substring(0, 400) + " .." : all;
    }

    private static int lineOfTest() {
        for (StackTraceElement at : Thread.currentThread().getStackTrace()) {
            if (at.getClassName().endsWith("Test")) {
                return at.getLineNumber();
            }
        }
        return 0;
    }

    static void is(long got, long want) {
        due(got, want);
    }

    static void is(boolean got, boolean want) {
        due(got, want);
    }

    static void is(String got, String want) {
        due(got, want);
    }

    static Thrown thrownBy(Call call) {
        try {
            call.make();
            return Thrown.NOTHING;
        } catch (ArrayIndexOutOfBoundsException | StringIndexOutOfBoundsException e) {
            return Thrown.OTHER;
        } catch (IndexOutOfBoundsException e) {
            return Thrown.INDEX;
        } catch (IllegalArgumentException e) {
            return Thrown.ARGUMENT;
        } catch (IllegalStateException e) {
            return Thrown.STATE;
        } catch (RuntimeException e) {
            return Thrown.OTHER;
        }
    }

    /** A method that throws changes nothing. */
    private static void throwing(Bags x, Thrown want, Call... calls) {
        for (Call call : calls) {
            String before = state(x);
            due(thrownBy(call), want);
            due(state(x), before);
        }
    }

    static void index(Bags x, Call... calls) {
        throwing(x, Thrown.INDEX, calls);
    }

    static void argument(Bags x, Call... calls) {
        throwing(x, Thrown.ARGUMENT, calls);
    }

    static void state(Bags x, Call... calls) {
        throwing(x, Thrown.STATE, calls);
    }

    static String state(Bags x) {
        StringBuilder state = new StringBuilder();
        for (int bag = 0; bag < 4; bag++) {
            state.append(x.text(bag, false)).append('/');
        }
        return state.append(x.halves()).append('/').append(x.digest()).toString();
    }

    /** A new object with bags as their texts tell: "-3x2 0x1". */
    static Bags with(String... texts) {
        Bags x = new Bags();
        for (int bag = 0; bag < texts.length; bag++) {
            for (String one : texts[bag].split(" ")) {
                if (!one.isEmpty()) {
                    x.put(bag, Integer.parseInt(one.split("x")[0]), Integer.parseInt(one.split("x")[1]));
                }
            }
        }
        return x;
    }

    static Bags flowed(int length, int... values) {
        Bags x = new Bags();
        x.window(length);
        for (int value : values) {
            x.flow(value);
        }
        return x;
    }

    /** A new object with 40 kinds in bag 0, 1 to 40, with so many copies of each. */
    static Bags fullOf(int count) {
        Bags x = new Bags();
        x.fill(0, 1, 40, 1, count);
        return x;
    }

    /** The values of the window from the oldest on; it is empty then. */
    static String drained(Bags x) {
        StringBuilder order = new StringBuilder();
        for (int value = x.oldest(); value != NONE; value = x.oldest()) {
            order.append(order.length() == 0 ? "" : " ").append(value);
        }
        return order.toString();
    }

    /** Whether the call ends a walk over bag 0, but none over bag 1. */
    static void endsWalk(Bags x, Call call) {
        x.walk(0);
        x.step();
        call.make();
        due(x.ofWalk(0), -1);
        due(x.ofWalk(1), NONE);
        due(x.ofWalk(2), 0);
        due(x.ofWalk(3), 0);
        due(x.ofWalk(4), 0);
        x.walk(1);
        call.make();
        due(x.ofWalk(0), 1);
    }

    static void keepsWalk(Bags x, Call call) {
        x.walk(0);
        x.step();
        call.make();
        due(x.ofWalk(0), 0);
        due(x.ofWalk(3), 1);
    }

    /**
     * An object in which nothing is as at first, so that any change shows: bag 3 has 40 kinds and no lens,
     * the walk stands at -7 of bag 1, the window holds -2, 9, 6 and 1, LAST is 77 with 4 copies.
     */
    static Bags busy() {
        Bags x = with("-7x3 0x5 4x5 30x1000000", "-7x2 1x1 4x9", "5x1 77x4");
        x.fill(3, 1, 40, 1, 1);
        x.lens(0, 0, -7, 5);
        x.lens(1, 1, 0, 3);
        x.lens(2, 2, 4, 0);
        x.lens(0, 0, 9, 8);
        x.none();
        x.knock();
        x.window(4);
        int[] values = {6, -2, 9, 6, 1};
        for (int value : values) {
            x.flow(value);
        }
        x.poll(2, true);
        x.walk(1);
        x.step();
        return x;
    }

    /** All that can be found out of an object; it is used up by that. */
    static String trace(Bags x) {
        StringBuilder trace = new StringBuilder(state(x));
        int[] probes = {-999, -8, -7, -6, 2, 3, 4, 5, 6, 999};
        for (int bag = 0; bag < 4; bag++) {
            trace.append(" lens ").append(bag).append(':');
            x.clear(bag);
            for (int probe = 0; x.ofLens(bag, 0) >= 0 && probe < probes.length; probe++) {
                trace.append(' ').append(x.lensPut(bag, probes[probe], 1));
            }
        }
        return trace.append(" window: ").append(drained(x)).toString();
    }

    private static final On AS_IT_IS = x -> { };
    private static final String BUSY = trace(busy());

    private static Bags busy(On ready) {
        Bags x = busy();
        ready.make(x);
        return x;
    }

    /** Each of these calls is refused by a busy object, and changes nothing. */
    static void refused(Thrown want, On... calls) {
        for (On call : calls) {
            Bags x = busy();
            due(thrownBy(() -> call.make(x)), want);
            due(trace(x), BUSY);
        }
    }

    /** Both bounds are taken by a busy object that was made ready; what is outside is refused, and changes nothing. */
    private static void bounded(On ready, Thrown want, int least, int greatest, Told call) {
        int[] outside = {least - 1, greatest + 1, Integer.MIN_VALUE, Integer.MAX_VALUE};
        String before = trace(busy(ready));
        for (int told : outside) {
            Bags x = busy(ready);
            due(thrownBy(() -> call.make(x, told)), want);
            due(trace(x), before);
        }
        int[] within = {least, greatest};
        for (int told : within) {
            Bags x = busy(ready);
            due(thrownBy(() -> call.make(x, told)), Thrown.NOTHING);
        }
    }

    static void bounded(Thrown want, int least, int greatest, Told call) {
        bounded(AS_IT_IS, want, least, greatest, call);
    }

    /** For calls that the busy object as it is would refuse for some bag. */
    static void bags(On ready, Told call) {
        bounded(ready, Thrown.INDEX, 0, 3, call);
        bounded(ready, Thrown.INDEX, 1, 2, (x, bag) -> call.make(x, bag == 0 ? -1 : bag == 3 ? 4 : bag));
    }

    static void bags(Told call) {
        bags(AS_IT_IS, call);
    }

    static void arguments(int least, int greatest, Told call) {
        bounded(Thrown.ARGUMENT, least, greatest, call);
    }

    static void numbers(Told call) {
        arguments(-999, 999, call);
    }

    static void counts(Told call) {
        arguments(1, FULL, call);
    }

    /** What is asked changes nothing, so that it is answered alike again. */
    static void asked(On... calls) {
        for (On call : calls) {
            Bags x = busy();
            call.make(x);
            due(trace(x), BUSY);
        }
    }

    static void report(String summary) {
        System.out.println(summary + ", " + checks + " checks, " + wrong + " not as due");
        if (wrong > 0) {
            System.exit(1);
        }
    }
}
