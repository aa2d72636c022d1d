/** The sentences of promises 1 to 19, the changes of a bag, with their boundaries. */
public final class ChangesTest extends Sentences {
    private static final String NUMBER_AND_COUNT =
        "Throws `IllegalArgumentException` if member is not -999 to 999, or count not 1 to 1000000";
    private static final String TIMES = "Throws `IllegalArgumentException` if by is not 2 to 1000";

    private static void newObject() {
        part("1: A new object");
        sentence("Creates four empty BAGS and an empty WINDOW.", () -> {
            Bags x = new Bags();
            for (int bag = 0; bag <= 3; bag++) {
                is(x.text(bag, false), "");
                is(x.ofBag(bag, 1), 0);
                is(x.ofLens(bag, 0), -1);
            }
            is(x.halves(), "|");
            is(x.ofWindow(0), 0);
            is(x.ofWindow(1), 9);
            is(x.ofWindow(9), 0);
            is(x.oldest(), NONE);
            is(x.ofWalk(0), -1);
            is(x.isSound(), true);
            busy();
            is(state(new Bags()), state(x));
        });
    }

    private static void put() {
        part("2: put");
        sentence("Puts copies into a BAG.", () -> {
            Bags x = new Bags();
            x.put(0, 999, 2);
            x.put(0, -999, 1);
            x.put(0, 0, FULL);
            is(x.text(0, false), "-999x1 0x1000000 999x2");
            is(x.text(1, false), "");
        });
        sentence("Returns its COUNT then.", () -> {
            Bags x = new Bags();
            is(x.put(0, 7, 1), 1);
            is(x.put(0, 7, 999998), 999999);
            is(x.put(0, 7, 1), FULL);
            is(x.put(1, 7, FULL), FULL);
        });
        sentence(BAG, () -> bags((x, bag) -> x.put(bag, 4, 1)));
        sentence(NUMBER_AND_COUNT, () -> {
            numbers((x, told) -> x.put(1, told, 1));
            counts((x, told) -> x.put(1, 50, told));
        });
        sentence(OVERFULL, () -> {
            refused(Thrown.STATE, x -> x.put(3, 0, 1), x -> x.put(3, 41, 1), x -> x.put(3, 999, FULL),
                x -> x.put(0, 30, 1), x -> x.put(0, 30, FULL), x -> x.put(0, 4, 999996), x -> x.put(0, -7, FULL));
            Bags x = busy();
            is(x.put(3, 40, 999999), FULL);
            is(x.put(0, 4, 999995), FULL);
            // Of a full bag only a new number is too much.
            state(x, () -> x.put(3, 40, 1), () -> x.put(3, 41, 1));
            is(x.put(3, 39, 1), 2);
        });
    }

    private static void take() {
        part("3: take");
        sentence("Takes copies out of a BAG: so many, or all that there are, if these are fewer.", () -> {
            Bags x = with("7x5 8x5 9x5 10x1000000");
            is(x.take(0, 7, 4), 4);
            is(x.take(0, 8, 5), 5);
            is(x.take(0, 9, 6), 5);
            is(x.text(0, false), "7x1 10x1000000");
            is(x.take(0, 7, FULL), 1);
            is(x.take(0, 10, FULL), FULL);
            is(x.text(0, false), "");
        });
        sentence("Returns how many were taken (0, if it is no MEMBER).", () -> {
            Bags x = with("7x5");
            is(x.take(0, 8, 1), 0);
            is(x.take(0, 6, FULL), 0);
            is(x.take(1, 7, 1), 0);
            is(x.text(0, false), "7x5");
        });
        sentence(BAG, () -> bags((x, bag) -> x.take(bag, 4, 1)));
        sentence(NUMBER_AND_COUNT, () -> {
            numbers((x, told) -> x.take(1, told, 1));
            counts((x, told) -> x.take(1, 4, told));
        });
    }

    private static void tell() {
        part("4: tell");
        sentence("Tells a COUNT.", () -> {
            Bags x = with("7x5");
            x.tell(0, 7, FULL);
            x.tell(0, 8, FULL);
            is(x.text(0, false), "7x1000000 8x1000000");
            x.tell(0, 7, 1);
            is(x.text(0, false), "7x1 8x1000000");
        });
        sentence("its COUNT from now on (0: it is no MEMBER any more)", () -> {
            Bags x = with("7x5 8x1");
            is(x.tell(0, 7, 0), 5);
            is(x.text(0, false), "8x1");
            is(x.tell(0, 8, 0), 1);
            is(x.ofBag(0, 1), 0);
            is(x.tell(0, 8, 0), 0);
            // A full bag takes a 0 of any number.
            Bags full = fullOf(1);
            is(full.tell(0, 0, 0), 0);
            is(full.tell(0, 40, 0), 1);
            is(full.tell(0, 0, 1), 0);
            is(full.ofBag(0, 1), 40);
        });
        sentence("Returns its COUNT before.", () -> {
            Bags x = new Bags();
            is(x.tell(0, 7, 3), 0);
            is(x.tell(0, 7, 3), 3);
            is(x.tell(0, 7, FULL), 3);
            is(x.tell(0, 7, 0), FULL);
        });
        sentence(BAG, () -> bags((x, bag) -> x.tell(bag, 4, 1)));
        sentence("Throws `IllegalArgumentException` if member is not -999 to 999, or count not 0 to 1000000", () -> {
            numbers((x, told) -> x.tell(1, told, 1));
            arguments(0, FULL, (x, told) -> x.tell(1, 4, told));
            arguments(0, FULL, (x, told) -> x.tell(1, 50, told));
        });
        sentence(OVERFULL, () -> {
            refused(Thrown.STATE, x -> x.tell(3, 0, 1), x -> x.tell(3, 41, FULL));
            is(busy().tell(3, 40, FULL), 1);
        });
    }

    private static void place() {
        part("5: place");
        sentence("Tells a COUNT only if the number is fresh, or only if it is not; otherwise nothing becomes "
            + "otherwise.", () -> {
            Bags x = with("7x5");
            x.place(0, 7, 2, true);
            x.place(0, 8, 2, false);
            is(x.text(0, false), "7x5");
            x.place(0, 7, FULL, false);
            x.place(0, 8, FULL, true);
            is(x.text(0, false), "7x1000000 8x1000000");
            x.place(0, 7, 1, false);
            is(x.text(0, false), "7x1 8x1000000");
        });
        sentence("whether that is done only if it is no MEMBER as yet; otherwise only if it is one", () -> {
            Bags x = with("7x5");
            x.take(0, 7, 5);
            x.place(0, 7, 2, false);
            is(x.text(0, false), "");
            x.place(0, 7, 2, true);
            is(x.text(0, false), "7x2");
        });
        sentence("Returns its COUNT before.", () -> {
            Bags x = with("7x5");
            is(x.place(0, 7, 2, true), 5);
            is(x.place(0, 7, 2, false), 5);
            is(x.place(0, 7, 2, false), 2);
            is(x.place(0, 8, 2, false), 0);
            is(x.place(0, 8, 2, true), 0);
        });
        sentence(BAG, () -> {
            bags((x, bag) -> x.place(bag, 4, 1, false));
            bags((x, bag) -> x.place(bag, 4, 1, true));
        });
        sentence(NUMBER_AND_COUNT, () -> {
            numbers((x, told) -> x.place(1, told, 1, true));
            numbers((x, told) -> x.place(1, told, 1, false));
            counts((x, told) -> x.place(1, 50, told, true));
            counts((x, told) -> x.place(1, 50, told, false));
        });
        sentence("Throws `IllegalStateException` if the COUNT would be told, and the BAG would be OVERFULL by "
            + "that", () -> {
            refused(Thrown.STATE, x -> x.place(3, 0, 1, true), x -> x.place(3, 41, FULL, true));
            Bags x = busy();
            is(x.place(3, 0, 1, false), 0);
            is(x.place(3, 40, 7, true), 1);
            is(x.place(3, 40, FULL, false), 1);
            is(x.ofBag(3, 1), 40);
            is(x.ofBag(3, 0), 39 + FULL);
        });
    }

    private static void swap() {
        part("6: swap");
        sentence("Tells a COUNT, if it is just what is thought.", () -> {
            Bags x = with("7x5");
            x.swap(0, 7, 4, 9);
            x.swap(0, 7, 6, 9);
            is(x.count(0, 7), 5);
            x.swap(0, 7, 5, 9);
            is(x.count(0, 7), 9);
            x.swap(0, 7, 9, FULL);
            is(x.count(0, 7), FULL);
            x.swap(0, 7, FULL, 1);
            is(x.count(0, 7), 1);
        });
        sentence("Returns whether it was so (otherwise nothing becomes otherwise; never of what is no MEMBER).", () -> {
            Bags x = with("7x5");
            is(x.swap(0, 7, 4, 9), false);
            is(x.swap(0, 8, 1, 9), false);
            is(x.swap(0, 8, 5, 9), false);
            is(x.swap(1, 7, 5, 9), false);
            is(x.text(0, false), "7x5");
            is(x.swap(0, 7, 5, 5), true);
            Bags full = fullOf(1);
            is(full.swap(0, 0, 1, 1), false);
            is(full.swap(0, 40, 1, 2), true);
        });
        sentence(BAG, () -> bags((x, bag) -> x.swap(bag, 4, 1, 2)));
        sentence("Throws `IllegalArgumentException` if member is not -999 to 999, or was or count not 1 to "
            + "1000000", () -> {
            numbers((x, told) -> x.swap(1, told, 1, 1));
            counts((x, told) -> x.swap(1, 4, told, 1));
            counts((x, told) -> x.swap(1, 4, 9, told));
            counts((x, told) -> x.swap(1, 50, 9, told));
            counts((x, told) -> x.swap(1, 50, told, 1));
        });
    }

    private static void poll() {
        part("7: poll");
        sentence("Polls a MEMBER with all its copies: it is none any more.", () -> {
            Bags x = with("-999x1000000 0x2 999x3");
            is(x.poll(0, true), 3);
            is(x.text(0, false), "-999x1000000 0x2");
            is(x.poll(0, false), FULL);
            is(x.text(0, false), "0x2");
            is(x.poll(0, false), 2);
            is(x.text(0, false), "");
        });
        sentence("It is LAST then.", () -> {
            Bags x = with("-999x1000000 999x3", "5x1");
            x.poll(0, false);
            is(x.books(2), -999);
            is(x.books(3), FULL);
            x.poll(1, true);
            is(x.books(2), 5);
            is(x.books(3), 1);
        });
        sentence("Returns its COUNT; 0, if the BAG is empty (LAST stays).", () -> {
            Bags x = with("5x2");
            is(x.poll(1, true), 0);
            is(x.books(2), NONE);
            is(x.books(3), 0);
            is(x.poll(0, true), 2);
            is(x.poll(0, true), 0);
            is(x.poll(0, false), 0);
            is(x.books(2), 5);
            is(x.books(3), 2);
        });
        sentence(BAG, () -> {
            bags((x, bag) -> x.poll(bag, true));
            bags((x, bag) -> x.poll(bag, false));
        });
    }

    private static void pick() {
        part("8: pick");
        sentence("Takes one copy from an end.", () -> {
            Bags x = with("-999x2 0x1 999x2");
            x.pick(0, true);
            is(x.text(0, false), "-999x2 0x1 999x1");
            x.pick(0, true);
            is(x.text(0, false), "-999x2 0x1");
            x.pick(0, false);
            is(x.text(0, false), "-999x1 0x1");
        });
        sentence("Returns that MEMBER; NONE, if the BAG is empty.", () -> {
            Bags x = with("-999x1 999x1");
            is(x.pick(0, true), 999);
            is(x.pick(0, true), -999);
            is(x.pick(0, true), NONE);
            is(x.pick(0, false), NONE);
            Bags one = with("3x2");
            is(one.pick(0, false), 3);
            is(one.pick(0, true), 3);
            is(one.pick(0, false), NONE);
        });
        sentence(BAG, () -> {
            bags((x, bag) -> x.pick(bag, true));
            bags((x, bag) -> x.pick(bag, false));
        });
    }

    private static void clear() {
        part("9: clear");
        sentence("Empties a BAG.", () -> {
            Bags x = with("1x1 2x2", "3x3");
            x.clear(0);
            is(x.text(0, false), "");
            is(x.text(1, false), "3x3");
        });
        sentence("Returns its SIZE before.", () -> {
            is(new Bags().clear(0), 0);
            is(with("1x1").clear(0), 1);
            is(fullOf(FULL).clear(0), LARGEST_SIZE);
        });
        sentence(BAG, () -> bags((x, bag) -> x.clear(bag)));
    }

    private static void fill() {
        part("10: fill");
        sentence("of from, from + step, from + 2 * step, and so on, as long as they are no more than to "
            + "(none, if from is above to)", () -> {
            Bags x = new Bags();
            is(x.fill(0, -4, 4, 4, 1), 3);
            is(x.text(0, false), "-4x1 0x1 4x1");
            is(x.fill(1, -4, 3, 4, 1), 2);
            is(x.fill(1, 5, 5, 999, 2), 1);
            is(x.text(1, false), "-4x1 0x1 5x2");
            is(x.fill(2, 5, 4, 1, 1), 0);
            is(x.fill(2, 999, -999, 999, FULL), 0);
            is(x.text(2, false), "");
            is(x.fill(3, -999, 999, 999, 1), 3);
            is(x.text(3, false), "-999x1 0x1 999x1");
        });
        sentence("Returns how many numbers these were.", () -> {
            is(new Bags().fill(0, 1, 40, 1, 1), 40);
            is(new Bags().fill(0, -999, 951, 50, 1), 40);
            is(new Bags().fill(0, -999, 950, 50, 1), 39);
            // Those that were members count as well.
            Bags x = with("1x1 2x1");
            is(x.fill(0, 1, 3, 1, 5), 3);
            is(x.text(0, false), "1x6 2x6 3x5");
        });
        sentence(BAG, () -> bags((x, bag) -> x.fill(bag, 4, 4, 1, 1)));
        sentence("Throws `IllegalArgumentException` if from or to is not -999 to 999, step not 1 to 999, "
            + "or count not 1 to 1000000", () -> {
            arguments(-999, 999, (x, told) -> x.fill(2, told, 999, 999, 1));
            arguments(-999, 999, (x, told) -> x.fill(2, -999, told, 999, 1));
            arguments(1, 999, (x, told) -> x.fill(2, 1, 9, told, 1));
            counts((x, told) -> x.fill(2, 1, 4, 1, told));
            // Also if there is no number at all.
            counts((x, told) -> x.fill(2, 4, 1, 1, told));
            arguments(1, 999, (x, told) -> x.fill(2, 9, 1, told, 1));
        });
        sentence(OVERFULL, () -> {
            refused(Thrown.STATE, x -> x.fill(3, 41, 41, 1, 1), x -> x.fill(3, 1, 41, 1, 1), x -> x.fill(2, 1, 41, 1, 1),
                x -> x.fill(2, -999, 999, 1, FULL), x -> x.fill(2, 6, 45, 1, 1), x -> x.fill(0, 30, 30, 1, 1),
                x -> x.fill(0, 29, 31, 1, FULL), x -> x.fill(1, 4, 4, 1, 999992));
            Bags x = busy();
            is(x.fill(2, 5, 44, 1, 999999), 40);
            is(x.ofBag(2, 0), LARGEST_SIZE - 39);
            is(x.fill(3, 1, 40, 1, 999999), 40);
            is(x.ofBag(3, 0), LARGEST_SIZE);
            is(x.fill(1, 4, 4, 1, 999991), 1);
            is(x.fill(3, 41, 40, 1, FULL), 0);
        });
    }

    private static void copy() {
        part("11: copy");
        sentence("Makes a BAG like another one is now (both may be the same).", () -> {
            Bags x = with("1x1 2x2", "3x3");
            is(x.copy(0, 1), 3);
            is(x.text(1, false), "1x1 2x2");
            // As it is now: what becomes of it later does not matter.
            x.put(0, 1, 1);
            x.put(1, 9, 1);
            is(x.text(0, false), "1x2 2x2");
            is(x.text(1, false), "1x1 2x2 9x1");
            is(x.copy(0, 0), 4);
            is(x.text(0, false), "1x2 2x2");
            is(x.copy(2, 0), 0);
            is(x.text(0, false), "");
        });
        sentence("Returns SIZE of to then.", () -> {
            Bags x = fullOf(FULL);
            is(x.copy(0, 3), LARGEST_SIZE);
            is(x.copy(3, 3), LARGEST_SIZE);
            is(x.copy(1, 3), 0);
            is(x.copy(1, 1), 0);
        });
        sentence("Throws `IndexOutOfBoundsException` if from or to is not 0 to 3", () -> {
            bags((x, bag) -> x.copy(bag, 1));
            bags((x, bag) -> x.copy(1, bag));
        });
    }

    private static void combine() {
        part("12: combine");
        sentence("Makes a BAG what two BAGS give as they are now (of all three any may be the same).", () -> {
            String[] twice = {"1x6 2x2", "1x3 2x1", "1x3 2x1", "", ""};
            String[] both = {"1x5 2x1 3x4", "1x3 2x1 3x4", "1x2", "1x1 2x1", "1x1 2x1 3x4"};
            for (int how = 0; how <= 4; how++) {
                Bags all = with("1x3 2x1");
                all.combine(0, 0, 0, how);
                is(all.text(0, false), twice[how]);
                Bags first = with("1x3 2x1", "1x2 3x4");
                first.combine(0, 1, 0, how);
                is(first.text(0, false), both[how]);
                is(first.text(1, false), "1x2 3x4");
                Bags second = with("1x3 2x1", "1x2 3x4");
                second.combine(0, 1, 1, how);
                is(second.text(1, false), both[how]);
                is(second.text(0, false), "1x3 2x1");
                Bags third = with("1x3 2x1", "1x2 3x4", "9x9");
                third.combine(0, 1, 2, how);
                is(third.text(2, false), both[how]);
                third.combine(0, 0, 3, how);
                is(third.text(3, false), twice[how]);
            }
        });
        sentence("0 SUM, 1 JOIN, 2 MEET, 3 LESS, 4 APART", () -> {
            Bags x = with("1x3", "1x2 3x4");
            String[] texts = {"1x2 3x4", "1x2 3x4", "", "", "1x2 3x4"};
            for (int how = 0; how <= 4; how++) {
                x.combine(2, 1, 3, how);
                is(x.text(3, false), texts[how]);
            }
        });
        sentence("Returns SIZE of to then.", () -> {
            Bags x = with("1x3 2x1", "1x2 3x4");
            long[] sizes = {10, 8, 2, 2, 6};
            for (int how = 0; how <= 4; how++) {
                is(x.combine(0, 1, 2, how), sizes[how]);
            }
            Bags full = fullOf(FULL);
            is(full.combine(0, 0, 3, 1), LARGEST_SIZE);
            is(full.combine(0, 0, 3, 3), 0);
        });
        sentence("Throws `IndexOutOfBoundsException` if one, other or to is not 0 to 3", () -> {
            bags((x, bag) -> x.combine(bag, 0, 1, 2));
            bags((x, bag) -> x.combine(0, bag, 1, 2));
            bags((x, bag) -> x.combine(0, 1, bag, 2));
        });
        sentence("Throws `IllegalArgumentException` if how is not 0 to 4", () ->
            arguments(0, 4, (x, told) -> x.combine(1, 2, 2, told)));
        sentence("Throws `IllegalStateException` if the BAG to would be OVERFULL", () -> {
            refused(Thrown.STATE, x -> x.combine(3, 1, 2, 0), x -> x.combine(3, 1, 2, 1), x -> x.combine(0, 3, 3, 4),
                x -> x.combine(0, 0, 2, 0), x -> x.combine(0, 0, 0, 0));
            // 40 kinds together and 1000000 copies together are not too much.
            Bags x = with("", "1x500000", "40x1");
            x.fill(0, 2, 40, 1, 1);
            is(x.combine(0, 1, 3, 0), 39 + 500000);
            is(x.combine(1, 1, 3, 0), FULL);
            x.put(1, 1, 1);
            state(x, () -> x.combine(1, 1, 3, 0));
            x.put(2, 41, 1);
            is(x.combine(0, 2, 3, 0), 41);
            x.put(2, 42, 1);
            state(x, () -> x.combine(0, 2, 3, 0), () -> x.combine(2, 0, 2, 1));
        });
    }

    private static void sift() {
        part("13: sift");
        sentence("Keeps only those MEMBERS of a BAG that are MEMBERS of another one, too, or only those that are not; "
            + "they keep their COUNTS.", () -> {
            Bags x = with("1x5 2x1 3x2", "2x4 3x2 9x1");
            x.copy(0, 2);
            is(x.sift(0, 1, true), 1);
            is(x.text(0, false), "2x1 3x2");
            is(x.sift(2, 1, false), 2);
            is(x.text(2, false), "1x5");
            is(x.text(1, false), "2x4 3x2 9x1");
            // One copy in the other bag is enough, and none is too little.
            Bags y = with("9x1000000 10x2", "9x1 10x1");
            y.take(1, 10, 1);
            y.copy(0, 2);
            y.sift(0, 1, true);
            is(y.text(0, false), "9x1000000");
            y.sift(2, 1, false);
            is(y.text(2, false), "10x2");
        });
        sentence("Returns how many KINDS are gone.", () -> {
            Bags x = with("1x5 2x1", "1x1");
            is(x.sift(0, 2, false), 0);
            is(x.sift(2, 0, true), 0);
            is(x.sift(2, 0, false), 0);
            is(x.sift(1, 0, true), 0);
            is(x.sift(0, 2, true), 2);
            is(x.text(0, false), "");
            Bags full = fullOf(FULL);
            full.copy(0, 1);
            is(full.sift(0, 1, true), 0);
            is(full.sift(0, 1, false), 40);
            is(full.sift(1, 0, true), 40);
        });
        sentence("Throws `IndexOutOfBoundsException` if bag or other is not 0 to 3", () -> {
            bags((x, bag) -> x.sift(bag, bag == 1 ? 2 : 1, true));
            bags((x, bag) -> x.sift(bag == 1 ? 2 : 1, bag, true));
            refused(Thrown.INDEX, x -> x.sift(4, 4, false), x -> x.sift(-1, -1, false));
        });
        sentence("Throws `IllegalArgumentException` if both are the same", () ->
            refused(Thrown.ARGUMENT, x -> x.sift(0, 0, true), x -> x.sift(1, 1, false), x -> x.sift(2, 2, true),
                x -> x.sift(3, 3, false)));
    }

    private static void purge() {
        part("14: purge");
        sentence("Takes out all MEMBERS that have just that COUNT.", () -> {
            Bags x = with("1x4 2x5 3x6 4x5 5x1000000 6x1");
            is(x.purge(0, 5), 2);
            is(x.text(0, false), "1x4 3x6 5x1000000 6x1");
            is(x.purge(0, FULL), 1);
            is(x.purge(0, 1), 1);
            is(x.text(0, false), "1x4 3x6");
        });
        sentence("Returns how many KINDS are gone.", () -> {
            is(new Bags().purge(0, 1), 0);
            is(with("1x4").purge(0, 5), 0);
            is(fullOf(FULL).purge(0, FULL), 40);
            is(fullOf(FULL).purge(0, FULL - 1), 0);
        });
        sentence(BAG, () -> bags((x, bag) -> x.purge(bag, 5)));
        sentence("Throws `IllegalArgumentException` if count is not 1 to 1000000", () ->
            counts((x, told) -> x.purge(0, told)));
    }

    private static void thin() {
        part("15: thin");
        sentence("Divides each COUNT of a BAG; who has 0 then is no MEMBER any more.", () -> {
            Bags x = with("1x1 2x2 3x3 4x4 5x999 6x1000 7x1001 8x1999 9x1000000");
            x.copy(0, 1);
            is(x.thin(0, 2), 1);
            is(x.text(0, false), "2x1 3x1 4x2 5x499 6x500 7x500 8x999 9x500000");
            is(x.thin(1, 1000), 5);
            is(x.text(1, false), "6x1 7x1 8x1 9x1000");
        });
        sentence("Returns how many KINDS are gone.", () -> {
            is(new Bags().thin(0, 2), 0);
            is(fullOf(1).thin(0, 2), 40);
            is(fullOf(2).thin(0, 2), 0);
            is(fullOf(999).thin(0, 1000), 40);
            is(fullOf(1000).thin(0, 1000), 0);
        });
        sentence(BAG, () -> bags((x, bag) -> x.thin(bag, 2)));
        sentence(TIMES, () -> arguments(2, 1000, (x, told) -> x.thin(1, told)));
    }

    private static void grow() {
        part("16: grow");
        sentence("Makes each COUNT of a BAG so many times what it is.", () -> {
            Bags x = with("1x1 2x500000", "1x1 2x1000");
            x.grow(0, 2);
            is(x.text(0, false), "1x2 2x1000000");
            x.grow(1, 1000);
            is(x.text(1, false), "1x1000 2x1000000");
        });
        sentence("Returns SIZE then.", () -> {
            is(new Bags().grow(0, 1000), 0);
            is(with("1x1 2x2").grow(0, 3), 9);
            is(fullOf(1000).grow(0, 1000), LARGEST_SIZE);
        });
        sentence(BAG, () -> bags((x, bag) -> x.grow(bag == 0 ? 1 : bag, 2)));
        sentence(TIMES, () -> arguments(2, 1000, (x, told) -> x.grow(3, told)));
        sentence(OVERFULL, () -> {
            refused(Thrown.STATE, x -> x.grow(0, 2), x -> x.grow(0, 1000));
            Bags x = with("1x1000", "1x1001", "1x500000", "1x500001 2x1");
            is(x.grow(0, 1000), FULL);
            is(x.grow(2, 2), FULL);
            state(x, () -> x.grow(1, 1000), () -> x.grow(3, 2), () -> x.grow(2, 2), () -> x.grow(2, 1000));
            is(x.grow(1, 999), 999999);
        });
    }

    private static void shift() {
        part("17: shift");
        sentence("Makes each MEMBER of a BAG greater by some number; COUNTS go along.", () -> {
            Bags x = with("-5x1 2x1000000");
            x.shift(0, 4);
            is(x.text(0, false), "-1x1 6x1000000");
            x.shift(0, 0);
            is(x.text(0, false), "-1x1 6x1000000");
            Bags full = fullOf(7);
            full.shift(0, 959);
            is(full.ofBag(0, 1), 40);
            is(full.ofBag(0, 4), 999);
            is(full.ofBag(0, 0), 280);
        });
        sentence("by what (below 0: less by that)", () -> {
            Bags x = with("-5x1 2x3");
            is(x.shift(0, -4), -9);
            is(x.text(0, false), "-9x1 -2x3");
        });
        sentence("Returns LEAST then; NONE, if the BAG is empty.", () -> {
            Bags x = with("0x1");
            is(x.shift(0, 999), 999);
            is(x.shift(0, -999), 0);
            is(x.shift(0, -999), -999);
            is(x.shift(0, 0), -999);
            is(x.shift(1, 999), NONE);
            is(x.shift(1, -999), NONE);
            is(x.shift(1, 0), NONE);
        });
        sentence(BAG, () -> bags((x, bag) -> x.shift(bag, 1)));
        sentence("Throws `IllegalArgumentException` if by is not -999 to 999", () -> {
            arguments(-999, 999, (x, told) -> new Bags().shift(0, told));
            refused(Thrown.ARGUMENT, x -> x.shift(0, 1000), x -> x.shift(0, -1000), x -> x.shift(0, Integer.MIN_VALUE));
        });
        sentence("Throws `IllegalStateException` if a MEMBER would not be -999 to 999 then", () -> {
            Bags x = with("-990x1 0x1", "0x1 990x1", "-999x1", "999x1");
            state(x, () -> x.shift(0, -10), () -> x.shift(1, 10), () -> x.shift(2, -1), () -> x.shift(3, 1),
                () -> x.shift(2, -999), () -> x.shift(3, 999));
            is(x.shift(0, -9), -999);
            is(x.shift(1, 9), 9);
            is(x.shift(2, 999), 0);
            is(x.shift(3, -999), 0);
        });
    }

    private static void turn() {
        part("18: turn");
        sentence("Makes each MEMBER m of a BAG -m; COUNTS go along.", () -> {
            Bags x = with("-999x1 -4x2 0x3 4x5 5x1000000 999x6");
            x.turn(0);
            is(x.text(0, false), "-999x6 -5x1000000 -4x5 0x3 4x2 999x1");
            Bags full = fullOf(2);
            is(full.turn(0), -40);
            is(full.ofBag(0, 4), -1);
            is(full.ofBag(0, 1), 40);
        });
        sentence("Returns LEAST then; NONE, if the BAG is empty.", () -> {
            is(with("-4x2 9x1").turn(0), -9);
            is(with("-999x1").turn(0), 999);
            is(with("0x1").turn(0), 0);
            is(new Bags().turn(0), NONE);
        });
        sentence(BAG, () -> bags((x, bag) -> x.turn(bag)));
    }

    private static void mend() {
        part("19: mend");
        sentence("MENDS a BAG towards another one (which stays as it is; both may be the same).", () -> {
            Bags x = with("1x5 2x1", "1x2 2x4 3x1");
            is(x.mend(0, 1, FULL), 7);
            is(x.text(0, false), "1x2 2x4 3x1");
            is(x.text(1, false), "1x2 2x4 3x1");
            is(x.mend(1, 1, FULL), 0);
            is(x.text(1, false), "1x2 2x4 3x1");
        });
        sentence("Returns how many were made (DISTANCE ahead of it, or changes, if that is less).", () -> {
            int[] told = {1, 6, 7, 8, FULL};
            int[] made = {1, 6, 7, 7, 7};
            for (int i = 0; i < told.length; i++) {
                is(with("1x5 2x1", "1x2 2x4 3x1").mend(0, 1, told[i]), made[i]);
            }
            is(new Bags().mend(0, 1, 1), 0);
            is(new Bags().mend(3, 3, FULL), 0);
            is(fullOf(FULL).mend(0, 1, FULL), FULL);
            is(fullOf(25000).mend(1, 0, FULL), FULL);
            is(fullOf(25000).mend(0, 1, 999999), 999999);
        });
        sentence("Throws `IndexOutOfBoundsException` if bag or other is not 0 to 3", () -> {
            bags((x, bag) -> x.mend(bag, bag, 1));
            bags((x, bag) -> x.mend(bag, 3, 1));
            bags((x, bag) -> x.mend(2, bag, 1));
        });
        sentence("Throws `IllegalArgumentException` if changes is not 1 to 1000000", () -> {
            arguments(1, FULL, (x, told) -> x.mend(2, 1, told));
            arguments(1, FULL, (x, told) -> x.mend(1, 1, told));
        });
        sentence("Throws `IllegalStateException` if the BAG would be OVERFULL behind the CHANGES that are made", () -> {
            // -7 is put twice first, then 2 and 3 are taken out: bag 3 has 41 kinds, 40 again, and 39.
            refused(Thrown.STATE, x -> x.mend(3, 1, 1), x -> x.mend(3, 1, 2));
            int[][] kinds = {{3, 40}, {4, 39}};
            for (int[] behind : kinds) {
                Bags x = busy();
                is(x.mend(3, 1, behind[0]), behind[0]);
                is(x.ofBag(3, 1), behind[1]);
            }
            // All changes: no kind is too much behind them, and the end is like the other bag.
            Bags all = busy();
            is(all.mend(3, 1, FULL), 2 + 38 + 8);
            is(all.isSame(3, 1), true);
        });
    }

    public static void main(String[] arguments) {
        newObject();
        put();
        take();
        tell();
        place();
        swap();
        poll();
        pick();
        clear();
        fill();
        copy();
        combine();
        sift();
        purge();
        thin();
        grow();
        shift();
        turn();
        mend();
        finish("ChangesTest", 1, 19);
    }
}
