/** The sentences of promises 31 to 42, the window, with their boundaries. */
public final class WindowTest extends Sentences {
    private static final String NO_VALUE = "Throws `IllegalArgumentException` if value is not -999 to 999";

    private static Bags rising(int length, int number) {
        Bags x = new Bags();
        x.window(length);
        for (int value = 1; value <= number; value++) {
            x.flow(value);
        }
        return x;
    }

    private static void window() {
        part("31: window");
        sentence("Tells LENGTH; what is too much falls out, the oldest VALUES first.", () -> {
            Bags x = rising(30, 30);
            x.window(29);
            is(x.ofWindow(1), 29);
            is(x.ofWindow(6), 2);
            x.window(1);
            is(x.ofWindow(1), 1);
            is(x.halves(), "30|");
            x.window(30);
            is(x.halves(), "30|");
            Bags y = flowed(9, 5, 1, 5, 3);
            y.window(2);
            is(drained(y), "5 3");
        });
        sentence("Returns how many VALUES fell out.", () -> {
            Bags x = rising(30, 30);
            is(x.window(30), 0);
            is(x.window(29), 1);
            is(x.window(1), 28);
            is(x.window(1), 0);
            is(x.window(30), 0);
            is(new Bags().window(1), 0);
            is(rising(9, 4).window(4), 0);
            is(rising(9, 4).window(3), 1);
        });
        sentence("Throws `IllegalArgumentException` if length is not 1 to 30", () ->
            arguments(1, 30, (x, told) -> x.window(told)));
    }

    private static void flow() {
        part("32: flow");
        sentence("A VALUE comes.", () -> {
            Bags x = rising(3, 3);
            x.flow(-999);
            x.flow(999);
            x.flow(999);
            is(x.ofWindow(0), 3);
            is(x.ofWindow(9), 6);
            is(drained(x), "-999 999 999");
        });
        sentence("Returns the MEDIAN then.", () -> {
            // Also of the latest value alone, and behind the oldest one fell out.
            Bags x = rising(1, 0);
            is(x.flow(999), 999);
            is(x.flow(-999), -999);
            Bags y = rising(2, 0);
            is(y.flow(8), 8);
            is(y.flow(4), 4);
            is(y.flow(6), 4);
            is(y.flow(9), 6);
            Bags z = rising(3, 0);
            is(z.flow(1), 1);
            is(z.flow(9), 1);
            is(z.flow(5), 5);
            is(z.flow(9), 9);
        });
        sentence(NO_VALUE, () -> numbers((x, told) -> x.flow(told)));
    }

    private static void pour() {
        part("33: pour");
        sentence("Takes one copy of the LEAST MEMBER out of a BAG: it comes as a VALUE.", () -> {
            Bags x = with("-999x2 999x1");
            x.window(2);
            x.flow(7);
            x.pour(0);
            is(x.text(0, false), "-999x1 999x1");
            is(x.ofWindow(9), 2);
            x.pour(0);
            is(x.text(0, false), "999x1");
            x.pour(0);
            is(x.text(0, false), "");
            is(x.ofWindow(9), 4);
            is(drained(x), "-999 999");
        });
        sentence("Returns that MEMBER; NONE, if the BAG is empty (nothing comes then).", () -> {
            Bags x = with("-999x1 999x1");
            is(x.pour(0), -999);
            is(x.pour(0), 999);
            is(x.pour(0), NONE);
            is(x.pour(1), NONE);
            is(x.ofWindow(0), 2);
            is(x.ofWindow(9), 2);
            is(x.books(2), NONE);
        });
        sentence(BAG, () -> bags((x, bag) -> x.pour(bag)));
    }

    private static void leave() {
        part("34: leave");
        sentence("The oldest VALUE of those that are like the one that is told leaves the WINDOW.", () -> {
            Bags x = flowed(9, 5, 1, 5, 1, 5, 3);
            x.leave(1);
            x.leave(5);
            is(drained(x), "5 1 5 3");
            Bags y = flowed(3, 5, 1, 5, 1);
            y.leave(5);
            is(drained(y), "1 1");
        });
        sentence("Returns whether there was one.", () -> {
            Bags x = flowed(2, 5, -999, 999);
            is(x.leave(5), false);
            is(x.leave(999), true);
            is(x.leave(999), false);
            is(x.leave(-999), true);
            is(x.leave(-999), false);
            is(x.halves(), "|");
            is(new Bags().leave(0), false);
        });
        sentence(NO_VALUE, () -> numbers((x, told) -> x.leave(told)));
    }

    private static void pull() {
        part("35: pull");
        sentence("A VALUE of the middle leaves the WINDOW: the oldest one of those that are like the MEDIAN, or like the "
            + "UPPER MEDIAN.", () -> {
            Bags x = flowed(9, 5, 1, 7, 5, 5, 7, 9);
            // 5,5,5,1|7,7,9
            x.pull(true);
            is(x.halves(), "5,5,1|7,7,9");
            x.pull(false);
            is(drained(x), "1 5 5 7 9");
            Bags alike = flowed(9, 4, 1, 4, 9, 4);
            // 4,4,1|4,9: both middles are alike, and the oldest one may be of the other half.
            alike.pull(false);
            is(drained(alike), "1 4 9 4");
        });
        sentence("Returns that VALUE; NONE, if there is none (nothing is done then).", () -> {
            Bags x = flowed(9, 8, 6);
            is(x.pull(true), 6);
            is(x.pull(false), NONE);
            is(x.halves(), "8|");
            is(x.pull(true), 8);
            is(x.pull(true), NONE);
            is(x.pull(false), NONE);
            is(x.ofWindow(0), 0);
            is(x.ofWindow(9), 2);
            Bags y = flowed(9, 8, 6);
            is(y.pull(false), 8);
            is(y.halves(), "6|");
        });
    }

    private static void oldest() {
        part("36: oldest");
        sentence("The oldest VALUE leaves the WINDOW.", () -> {
            Bags x = flowed(3, 5, 1, 5, 3);
            x.oldest();
            is(x.ofWindow(6), 5);
            is(x.ofWindow(7), 3);
            is(x.halves(), "3|5");
        });
        sentence("Returns that; NONE, if there is none.", () -> {
            Bags x = flowed(9, -999, 999);
            is(x.oldest(), -999);
            is(x.oldest(), 999);
            is(x.oldest(), NONE);
            is(x.ofWindow(0), 0);
            is(new Bags().oldest(), NONE);
        });
    }

    private static void harvest() {
        part("37: harvest");
        sentence("Puts one copy for each VALUE of the WINDOW into a BAG; the WINDOW is empty then.", () -> {
            Bags x = flowed(9, 5, 1, 5, -999, 999);
            x.put(0, 1, 4);
            x.harvest(0);
            is(x.text(0, false), "-999x1 1x5 5x2 999x1");
            int[] empty = {0, 9, NONE, NONE, 0, 0, NONE, NONE, 0, 5};
            for (int what = 0; what <= 9; what++) {
                is(x.ofWindow(what), empty[what]);
            }
            is(x.halves(), "|");
            is(x.holds(5), 0);
        });
        sentence("Returns how many VALUES.", () -> {
            is(new Bags().harvest(0), 0);
            is(rising(1, 1).harvest(3), 1);
            is(rising(30, 31).harvest(0), 30);
            is(flowed(9, 5, 5, 5).harvest(0), 3);
            // A full bag takes no value at all.
            Bags full = fullOf(FULL);
            is(full.harvest(0), 0);
            is(full.ofBag(0, 0), LARGEST_SIZE);
        });
        sentence(BAG, () -> bags(x -> x.clear(3), (x, bag) -> x.harvest(bag)));
        sentence(OVERFULL, () -> {
            refused(Thrown.STATE, x -> x.harvest(3));
            Bags x = rising(30, 30);
            x.fill(0, 31, 41, 1, 1);
            x.put(1, 30, FULL);
            state(x, () -> x.harvest(0), () -> x.harvest(1));
            x.take(0, 41, 1);
            is(x.harvest(0), 30);
            is(x.ofBag(0, 1), 40);
            Bags y = flowed(9, 7, 7);
            y.put(0, 7, 999999);
            state(y, () -> y.harvest(0));
            is(drained(y), "7 7");
            y.flow(7);
            is(y.harvest(0), 1);
            is(y.count(0, 7), FULL);
        });
    }

    private static void none() {
        part("38: none");
        sentence("What is no VALUE comes: the WINDOW does not take it.", () -> {
            Bags x = rising(3, 3);
            x.none();
            is(x.ofWindow(9), 3);
            is(drained(x), "1 2 3");
        });
        sentence("Returns -9 (a LAPSE).", () -> {
            Bags x = new Bags();
            is(x.none(), -9);
            is(x.books(0), 1);
            is(x.none(), -9);
            is(x.books(0), 2);
        });
    }

    private static void ofWindow() {
        part("39: ofWindow");
        sentence("0 how many VALUES, 1 LENGTH, 2 MEDIAN, 3 UPPER MEDIAN, 4 how many the LOWER HALF has, 5 the UPPER HALF, "
            + "6 the oldest VALUE (NONE), 7 the latest one (NONE), 8 the sum of all VALUES, 9 how many ever came (by flow() "
            + "and pour())", () -> {
            Bags x = with("-20x1");
            int[][] told = {
                {0, 2, NONE, NONE, 0, 0, NONE, NONE, 0, 0},
                {1, 2, 7, NONE, 1, 0, 7, 7, 7, 1},
                {2, 2, -20, 7, 1, 1, 7, -20, -13, 2},
                {2, 2, -20, 3, 1, 1, -20, 3, -17, 3},
                {1, 2, 3, NONE, 1, 0, 3, 3, 3, 3},
                {0, 2, NONE, NONE, 0, 0, NONE, NONE, 0, 3},
            };
            On[] between = {y -> y.flow(7), y -> y.pour(0), y -> y.flow(3), y -> y.oldest(), y -> y.harvest(1), y -> y.none()};
            x.window(2);
            for (int i = 0; i < told.length; i++) {
                for (int what = 0; what <= 9; what++) {
                    is(x.ofWindow(what), told[i][what]);
                }
                between[i].make(x);
            }
            is(x.ofWindow(9), 3);
            is(flowed(9, 999, 999).ofWindow(8), 1998);
            Bags least = new Bags();
            least.window(30);
            for (int i = 0; i < 40; i++) {
                least.flow(-999);
            }
            is(least.ofWindow(8), -29970);
            is(least.ofWindow(9), 40);
        });
        sentence("Returns that.", () -> is(new Bags().ofWindow(1), 9));
        sentence("Throws `IllegalArgumentException` if what is not 0 to 9", () -> {
            arguments(0, 9, (x, told) -> x.ofWindow(told));
            Bags x = new Bags();
            argument(x, () -> x.ofWindow(-1), () -> x.ofWindow(10));
        });
    }

    private static void holds() {
        part("40: holds");
        sentence("Returns how many VALUES in the WINDOW are like it.", () -> {
            Bags x = flowed(3, 5, 5, 1, 5, -999);
            is(x.holds(5), 1);
            is(x.holds(1), 1);
            is(x.holds(-999), 1);
            is(x.holds(999), 0);
            Bags alike = new Bags();
            alike.window(30);
            for (int i = 1; i <= 31; i++) {
                alike.flow(999);
                is(alike.holds(999), Math.min(i, 30));
            }
            is(new Bags().holds(0), 0);
        });
        sentence(NO_VALUE, () -> numbers((x, told) -> x.holds(told)));
    }

    private static void halves() {
        part("41: halves");
        sentence("Returns the LOWER HALF from its greatest VALUE on, then \"|\", then the UPPER HALF from its least VALUE on, "
            + "with \",\" between two VALUES of a HALF (\"3,1|5,9\"; \"|\", if the WINDOW is empty).", () -> {
            is(flowed(9, 9, 1, 5, 3).halves(), "3,1|5,9");
            is(new Bags().halves(), "|");
            is(flowed(9, -999).halves(), "-999|");
            is(flowed(9, 999, -999).halves(), "-999|999");
            is(flowed(9, 7, -7, 0).halves(), "0,-7|7");
            is(flowed(9, 2, 2, 2, 2, 2).halves(), "2,2,2|2,2");
            StringBuilder full = new StringBuilder();
            for (int i = 15; i >= 1; i--) {
                full.append(i).append(i > 1 ? "," : "|");
            }
            for (int i = 16; i <= 30; i++) {
                full.append(i).append(i < 30 ? "," : "");
            }
            is(rising(30, 30).halves(), full.toString());
        });
    }

    private static void wouldFlow() {
        part("42: wouldFlow");
        sentence("Returns the MEDIAN that there would be, if it came.", () -> {
            is(new Bags().wouldFlow(999), 999);
            is(flowed(1, 5).wouldFlow(-999), -999);
            is(flowed(2, 5).wouldFlow(3), 3);
            is(flowed(2, 5).wouldFlow(9), 5);
            // The window is full: the oldest one falls out, and that may be like the one that comes.
            is(flowed(2, 5, 8).wouldFlow(9), 8);
            is(flowed(2, 5, 8).wouldFlow(5), 5);
            is(flowed(3, 1, 5, 9).wouldFlow(9), 9);
            is(flowed(3, 9, 5, 1).wouldFlow(1), 1);
            // Of several that are like the oldest one just that falls out.
            is(flowed(3, 5, 5, 9).wouldFlow(7), 7);
            is(flowed(3, 5, 5, 5).wouldFlow(9), 5);
            // Behind 1 to a number, for which the window has room up to 8 of them.
            int[] medians = {999, 1, 2, 2, 3, 3, 4, 4, 5, 6};
            for (int number = 0; number < medians.length; number++) {
                is(rising(9, number).wouldFlow(999), medians[number]);
            }
            int[] told = {-999, 0, 15, 16, 17, 40, 999};
            for (int value : told) {
                Bags x = rising(30, 31);
                int would = x.wouldFlow(value);
                is(x.ofWindow(9), 31);
                is(x.ofWindow(6), 2);
                is(x.flow(value), would);
            }
        });
        sentence(NO_VALUE, () -> numbers((x, told) -> x.wouldFlow(told)));
    }

    public static void main(String[] arguments) {
        window();
        flow();
        pour();
        leave();
        pull();
        oldest();
        harvest();
        none();
        ofWindow();
        holds();
        halves();
        wouldFlow();
        finish("WindowTest", 31, 42);
    }
}
