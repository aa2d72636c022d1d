/** The sentences of promises 20 to 30, the lens of a bag and the walk, with their boundaries. */
public final class LensTest extends Sentences {
    private static final String NO_LENS = "Throws `IllegalStateException` if the BAG has no LENS";

    /** For calls that need a lens, which bag 3 of a busy object has not. */
    private static void lensedBags(Told call) {
        bags(x -> x.lens(3, 1, 0, 999), call);
        refused(Thrown.INDEX, x -> call.make(x, -1), x -> call.make(x, 4));
    }

    private static void lens() {
        part("20: lens");
        sentence("Tells the LENS of a BAG (one that it had is gone).", () -> {
            Bags x = with("1x1 5x2 9x4");
            is(x.lens(0, 0, 1, 6), 2);
            is(x.lens(0, 2, 5, 0), 1);
            is(x.ofLens(0, 0), 2);
            is(x.ofLens(0, 2), 4);
            is(x.lensCount(0, 1), 0);
        });
        sentence("FROM (FORM 1 has no use for it)", () -> {
            Bags x = with("1x1 5x2 9x4");
            is(x.lens(0, 1, 999, 5), 2);
            is(x.lens(0, 1, -999, 5), 2);
            is(x.lens(0, 1, 6, 5), 2);
            is(x.books(0), 0);
        });
        sentence("TO (FORM 2 has no use for it)", () -> {
            Bags x = with("1x1 5x2 9x4");
            is(x.lens(0, 2, 1, -999), 2);
            is(x.lens(0, 2, 1, 999), 2);
            is(x.lens(0, 2, 1, 0), 2);
            is(x.books(0), 0);
        });
        sentence("Returns how many KINDS lie in it", () -> {
            Bags full = fullOf(FULL);
            is(full.lens(0, 0, 1, 40), 39);
            is(full.lens(0, 0, 1, 41), 40);
            is(full.lens(0, 1, 0, 40), 40);
            is(full.lens(0, 1, 0, 0), 0);
            is(full.lens(0, 2, 0, 0), 40);
            is(full.lens(0, 2, 40, 0), 0);
            is(full.lens(1, 2, -999, 0), 0);
        });
        sentence("-9 (a LAPSE), if FORM is 0 and from is above to (a LENS that it had stays then)", () -> {
            Bags x = with("1x1 5x2 9x4");
            is(x.lens(0, 0, 1, 0), -9);
            is(x.ofLens(0, 0), -1);
            is(x.lens(0, 0, 5, 10), 2);
            is(x.lens(0, 0, 999, -999), -9);
            is(x.lens(0, 0, 6, 5), -9);
            is(x.books(0), 3);
            is(x.ofLens(0, 0), 0);
            is(x.ofLens(0, 2), 6);
            is(x.lensPut(0, 4, 1), -9);
            is(x.lensPut(0, 10, 1), -9);
        });
        sentence("0 without a LAPSE, if FORM is 0 and both are the same (nothing is within REACH)", () -> {
            Bags x = with("-999x1 1x1 999x1");
            int[] bounds = {-999, 0, 1, 999};
            for (int bound : bounds) {
                is(x.lens(0, 0, bound, bound), 0);
                is(x.books(0), 0);
                is(x.ofLens(0, 0), 0);
            }
            x.lens(0, 0, 1, 1);
            is(x.lensPut(0, 1, 1), -9);
            is(x.books(0), 1);
        });
        sentence(BAG, () -> bags((x, bag) -> x.lens(bag, 0, 0, 1)));
        sentence("Throws `IllegalArgumentException` if form is not 0 to 2, or from or to not -999 to 999", () -> {
            arguments(0, 2, (x, told) -> x.lens(0, told, 0, 1));
            for (int form = 0; form <= 2; form++) {
                int of = form;
                numbers((x, told) -> x.lens(0, of, told, 999));
                numbers((x, told) -> x.lens(0, of, -999, told));
            }
            // It is no LAPSE then.
            refused(Thrown.ARGUMENT, x -> x.lens(0, 0, 1000, 0), x -> x.lens(0, 0, 0, -1000), x -> x.lens(0, 3, 1, 0));
        });
    }

    private static void lensPut() {
        part("21: lensPut");
        sentence("Puts copies through the LENS of a BAG.", () -> {
            Bags x = with("2x3 7x1");
            x.lens(0, 0, 2, 6);
            x.lensPut(0, 2, 1);
            x.lensPut(0, 5, FULL);
            is(x.text(0, false), "2x4 5x1000000 7x1");
        });
        sentence("Returns its COUNT then", () -> {
            Bags x = with("2x3");
            x.lens(0, 0, 2, 6);
            is(x.lensPut(0, 2, 1), 4);
            is(x.lensPut(0, 5, 1), 1);
            is(x.lensPut(0, 5, 999999), FULL);
        });
        sentence("-9 (a LAPSE), if the number is not within REACH (nothing is put then)", () -> {
            Bags x = with("2x3 6x1");
            x.lens(0, 0, 2, 6);
            is(x.lensPut(0, 1, 1), -9);
            is(x.lensPut(0, 6, FULL), -9);
            is(x.lensPut(0, -999, 1), -9);
            is(x.lensPut(0, 999, 1), -9);
            is(x.books(0), 4);
            is(x.text(0, false), "2x3 6x1");
        });
        sentence(BAG, () -> lensedBags((x, bag) -> x.lensPut(bag, 4, 1)));
        sentence("Throws `IllegalArgumentException` if member is not -999 to 999, or count not 1 to 1000000", () -> {
            numbers((x, told) -> x.lensPut(0, told, 1));
            counts((x, told) -> x.lensPut(0, -6, told));
            counts((x, told) -> x.lensPut(0, 100, told));
            refused(Thrown.ARGUMENT, x -> x.lensPut(3, 1000, 1), x -> x.lensPut(3, 1, 0));
        });
        sentence("Throws `IllegalStateException` if the BAG has no LENS, or if the number is within REACH, "
            + "and the BAG would be OVERFULL", () -> {
            refused(Thrown.STATE, x -> x.lensPut(3, 1, 1), x -> x.lensPut(3, 50, 1), x -> x.lensPut(3, 1, FULL),
                x -> x.lensPut(0, -7, 999998), x -> x.lensPut(0, 4, FULL), x -> x.lensPut(1, 1, FULL));
            Bags x = busy();
            x.lens(3, 1, 0, 999);
            state(x, () -> x.lensPut(3, 0, 1), () -> x.lensPut(3, 41, 1), () -> x.lensPut(3, 40, FULL));
            is(x.lensPut(3, 40, 999999), FULL);
            is(x.lensPut(0, -7, 999997), FULL);
            // Out of reach it is a LAPSE, though the bag would be overfull.
            is(x.lensPut(0, 30, FULL), -9);
            is(x.lens(3, 1, 0, 50), 40);
            is(x.lensPut(3, 51, 1), -9);
        });
    }

    private static void lensTake() {
        part("22: lensTake");
        sentence("Takes all copies of a number out through the LENS of a BAG.", () -> {
            Bags x = with("2x3 3x1000000 6x1");
            x.lens(0, 0, 2, 6);
            is(x.lensTake(0, 3), FULL);
            is(x.text(0, false), "2x3 6x1");
            is(x.lensTake(0, 2), 3);
            is(x.text(0, false), "6x1");
        });
        sentence("Returns how many these were (0, if it does not lie in the LENS: nothing is taken then, also if it is a "
            + "MEMBER).", () -> {
            Bags x = with("1x2 2x3 6x1");
            x.lens(0, 0, 2, 6);
            is(x.lensTake(0, 6), 0);
            is(x.lensTake(0, 1), 0);
            is(x.lensTake(0, 3), 0);
            is(x.text(0, false), "1x2 2x3 6x1");
            x.lens(0, 0, 2, 2);
            is(x.lensTake(0, 2), 0);
            is(x.text(0, false), "1x2 2x3 6x1");
            is(x.books(0), 0);
        });
        sentence(BAG, () -> lensedBags((x, bag) -> x.lensTake(bag, 4)));
        sentence("Throws `IllegalArgumentException` if member is not -999 to 999", () -> {
            numbers((x, told) -> x.lensTake(0, told));
            refused(Thrown.ARGUMENT, x -> x.lensTake(3, 1000), x -> x.lensTake(3, -1000));
        });
        sentence(NO_LENS, () -> refused(Thrown.STATE, x -> x.lensTake(3, 1), x -> x.lensTake(3, 999)));
    }

    private static void lensPoll() {
        part("23: lensPoll");
        sentence("Polls the least MEMBER that lies in the LENS of a BAG: all its copies are taken out, and it is "
            + "LAST.", () -> {
            Bags x = with("1x2 2x3 5x1000000 6x1");
            x.lens(0, 0, 2, 6);
            x.lensPoll(0);
            is(x.text(0, false), "1x2 5x1000000 6x1");
            is(x.books(2), 2);
            is(x.books(3), 3);
            x.lensPoll(0);
            is(x.text(0, false), "1x2 6x1");
            is(x.books(2), 5);
            is(x.books(3), FULL);
        });
        sentence("Returns its COUNT; 0, if nothing lies in the LENS (LAST stays).", () -> {
            Bags x = with("1x2 2x3 6x1");
            x.lens(0, 0, 2, 6);
            is(x.lensPoll(0), 3);
            is(x.lensPoll(0), 0);
            x.lens(0, 0, 1, 1);
            is(x.lensPoll(0), 0);
            x.lens(1, 1, 0, 999);
            is(x.lensPoll(1), 0);
            is(x.text(0, false), "1x2 6x1");
            is(x.books(2), 2);
            is(x.books(3), 3);
        });
        sentence(BAG, () -> lensedBags((x, bag) -> x.lensPoll(bag)));
        sentence(NO_LENS, () -> refused(Thrown.STATE, x -> x.lensPoll(3)));
    }

    private static void lensClear() {
        part("24: lensClear");
        sentence("Takes out all that lies in the LENS of a BAG.", () -> {
            Bags x = with("1x2 2x3 5x4 6x1", "2x1");
            x.lens(0, 0, 2, 6);
            x.lensClear(0);
            is(x.text(0, false), "1x2 6x1");
            is(x.text(1, false), "2x1");
            x.lens(0, 1, 0, 1);
            x.lensClear(0);
            is(x.text(0, false), "6x1");
            x.lens(0, 2, 5, 0);
            x.lensClear(0);
            is(x.text(0, false), "");
        });
        sentence("Returns how many copies.", () -> {
            Bags x = fullOf(FULL);
            x.lens(0, 1, 0, 0);
            is(x.lensClear(0), 0);
            x.lens(0, 0, 5, 5);
            is(x.lensClear(0), 0);
            x.lens(0, 0, 1, 3);
            is(x.lensClear(0), 2 * FULL);
            is(x.lensClear(0), 0);
            x.lens(0, 1, 0, 999);
            is(x.lensClear(0), 38 * FULL);
            is(x.lensClear(0), 0);
            is(x.books(2), NONE);
        });
        sentence(BAG, () -> lensedBags((x, bag) -> x.lensClear(bag)));
        sentence(NO_LENS, () -> refused(Thrown.STATE, x -> x.lensClear(3)));
    }

    private static void ofLens() {
        part("25: ofLens");
        sentence("0 FORM of its LENS, 1 how many KINDS lie in it, 2 how many copies, 3 the least MEMBER in it, "
            + "4 the greatest one (both NONE, if nothing lies in it)", () -> {
            Bags x = with("-999x2 2x1000000 5x4 999x1");
            int[][] lenses = {{0, -998, 999}, {0, -999, 999}, {1, 0, 4}, {2, 4, 0}, {0, 3, 5}, {0, 5, 5}, {1, 0, 999}};
            long[][] told = {{0, 2, 1000004, 2, 5}, {0, 3, 1000006, -999, 5}, {1, 2, 1000002, -999, 2},
                {2, 2, 5, 5, 999}, {0, 0, 0, NONE, NONE}, {0, 0, 0, NONE, NONE}, {1, 4, 1000007, -999, 999}};
            for (int i = 0; i < lenses.length; i++) {
                is(x.lens(0, lenses[i][0], lenses[i][1], lenses[i][2]), told[i][1]);
                for (int what = 0; what <= 4; what++) {
                    is(x.ofLens(0, what), told[i][what]);
                }
            }
            Bags full = fullOf(FULL);
            full.lens(0, 2, 0, 0);
            is(full.ofLens(0, 2), LARGEST_SIZE);
        });
        sentence("Returns that; without a LENS -1, 0, 0, NONE, NONE.", () -> {
            Bags x = with("1x1", "1x1", "1x1", "1x1");
            x.lens(2, 1, 0, 5);
            long[] none = {-1, 0, 0, NONE, NONE};
            int[] without = {0, 1, 3};
            for (int bag : without) {
                for (int what = 0; what <= 4; what++) {
                    is(x.ofLens(bag, what), none[what]);
                }
            }
        });
        sentence(BAG, () -> bags((x, bag) -> x.ofLens(bag, 0)));
        sentence("Throws `IllegalArgumentException` if what is not 0 to 4", () -> {
            arguments(0, 4, (x, told) -> x.ofLens(0, told));
            arguments(0, 4, (x, told) -> x.ofLens(3, told));
        });
    }

    private static void lensCount() {
        part("26: lensCount");
        sentence("Returns its COUNT, if it lies in the LENS; otherwise 0 (also without a LENS).", () -> {
            Bags x = with("1x2 2x3 5x1000000 6x1");
            is(x.lensCount(0, 2), 0);
            x.lens(0, 0, 2, 6);
            int[] numbers = {-999, 1, 2, 3, 5, 6, 999};
            int[] counts = {0, 0, 3, 0, FULL, 0, 0};
            for (int i = 0; i < numbers.length; i++) {
                is(x.lensCount(0, numbers[i]), counts[i]);
            }
            x.lens(0, 0, 2, 2);
            is(x.lensCount(0, 2), 0);
            is(x.books(0), 0);
        });
        sentence(BAG, () -> bags((x, bag) -> x.lensCount(bag, 4)));
        sentence("Throws `IllegalArgumentException` if member is not -999 to 999", () -> {
            numbers((x, told) -> x.lensCount(0, told));
            numbers((x, told) -> x.lensCount(3, told));
        });
    }

    private static void walk() {
        part("27: walk");
        sentence("Begins a WALK.", () -> {
            Bags x = with("1x2 2x3");
            x.walk(0);
            int[] begun = {0, NONE, 0, 0, 1};
            for (int what = 0; what <= 4; what++) {
                is(x.ofWalk(what), begun[what]);
            }
            x.walk(3);
            int[] overNothing = {3, NONE, 0, 0, 0};
            for (int what = 0; what <= 4; what++) {
                is(x.ofWalk(what), overNothing[what]);
            }
        });
        sentence("Returns its KINDS.", () -> {
            Bags x = fullOf(1);
            x.put(1, 5, FULL);
            is(x.walk(0), 40);
            is(x.walk(1), 1);
            is(x.walk(2), 0);
        });
        sentence(BAG, () -> bags((x, bag) -> x.walk(bag)));
    }

    private static void step() {
        part("28: step");
        sentence("Does a step of the WALK: AT is the next MEMBER then, and SEEN is 1 more.", () -> {
            Bags x = with("-999x2 3x3");
            x.walk(0);
            x.step();
            is(x.ofWalk(1), -999);
            is(x.ofWalk(2), 2);
            is(x.ofWalk(3), 1);
            x.step();
            is(x.ofWalk(1), 3);
            is(x.ofWalk(2), 3);
            is(x.ofWalk(3), 2);
        });
        sentence("Returns AT; NONE, if there is no other MEMBER (nothing is done then: AT and SEEN stay).", () -> {
            Bags x = with("-999x2 3x3");
            x.walk(0);
            is(x.step(), -999);
            is(x.step(), 3);
            is(x.step(), NONE);
            is(x.step(), NONE);
            int[] stays = {0, 3, 3, 2, 0};
            for (int what = 0; what <= 4; what++) {
                is(x.ofWalk(what), stays[what]);
            }
            x.walk(1);
            is(x.step(), NONE);
            is(x.ofWalk(0), 1);
            is(x.ofWalk(1), NONE);
            is(x.ofWalk(3), 0);
        });
        sentence("Throws `IllegalStateException` if there is no WALK", () -> {
            Bags x = with("1x1");
            state(x, () -> x.step());
            x.walk(0);
            x.put(0, 1, 1);
            state(x, () -> x.step());
            x.walk(1);
            x.clear(1);
            state(x, () -> x.step());
        });
    }

    private static void stepSet() {
        part("29: stepSet");
        sentence("Tells the COUNT of AT, on the WALK (which goes on).", () -> {
            Bags x = with("1x2 2x3 3x4");
            x.walk(0);
            x.step();
            x.stepSet(FULL);
            is(x.ofWalk(2), FULL);
            is(x.step(), 2);
            x.stepSet(1);
            is(x.step(), 3);
            x.step();
            x.stepSet(9);
            is(x.ofWalk(1), 3);
            is(x.ofWalk(3), 3);
            is(x.text(0, false), "1x1000000 2x1 3x9");
        });
        sentence("Returns its COUNT before.", () -> {
            Bags x = with("1x2");
            x.walk(0);
            x.step();
            is(x.stepSet(FULL), 2);
            is(x.stepSet(FULL), FULL);
            is(x.stepSet(1), FULL);
        });
        sentence("Throws `IllegalArgumentException` if count is not 1 to 1000000", () -> {
            counts((x, told) -> x.stepSet(told));
            Bags x = new Bags();
            argument(x, () -> x.stepSet(0), () -> x.stepSet(FULL + 1));
        });
        sentence("Throws `IllegalStateException` if there is no WALK, or AT is NONE", () -> {
            Bags x = with("1x2");
            state(x, () -> x.stepSet(1), () -> x.stepSet(FULL));
            x.walk(0);
            state(x, () -> x.stepSet(1), () -> x.stepSet(FULL));
            x.walk(1);
            x.step();
            state(x, () -> x.stepSet(1));
            x.walk(0);
            x.step();
            is(x.stepSet(3), 2);
            x.take(0, 9, 1);
            state(x, () -> x.stepSet(1));
        });
    }

    private static void ofWalk() {
        part("30: ofWalk");
        sentence("0 the BAG of the WALK, 1 AT, 2 the COUNT of AT (0, if AT is NONE), 3 SEEN, 4 1 if there is another MEMBER "
            + "to come, otherwise 0", () -> {
            Bags x = with("", "", "", "-999x2 3x1000000");
            x.walk(3);
            int[][] told = {{3, NONE, 0, 0, 1}, {3, -999, 2, 1, 1}, {3, 3, FULL, 2, 0}, {3, 3, FULL, 2, 0}};
            for (int[] row : told) {
                for (int what = 0; what <= 4; what++) {
                    is(x.ofWalk(what), row[what]);
                }
                x.step();
            }
        });
        sentence("Returns that; without a WALK -1, NONE, 0, 0, 0.", () -> {
            int[] none = {-1, NONE, 0, 0, 0};
            Bags x = with("1x1 2x2");
            for (int what = 0; what <= 4; what++) {
                is(x.ofWalk(what), none[what]);
            }
            x.walk(0);
            x.step();
            x.take(0, 9, 1);
            for (int what = 0; what <= 4; what++) {
                is(x.ofWalk(what), none[what]);
            }
        });
        sentence("Throws `IllegalArgumentException` if what is not 0 to 4", () -> {
            arguments(0, 4, (x, told) -> x.ofWalk(told));
            Bags x = new Bags();
            argument(x, () -> x.ofWalk(-1), () -> x.ofWalk(5));
        });
    }

    public static void main(String[] arguments) {
        lens();
        lensPut();
        lensTake();
        lensPoll();
        lensClear();
        ofLens();
        lensCount();
        walk();
        step();
        stepSet();
        ofWalk();
        finish("LensTest", 20, 30);
    }
}
