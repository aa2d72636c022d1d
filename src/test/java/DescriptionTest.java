/** The sentences of the document's description, sections 1 to 6 and what stands behind them, with their boundaries. */
public final class DescriptionTest extends Sentences {
    private static void beforeTheSections() {
        part("What it is");
        sentence("Four bags in which a number may lie many times, and a window of the latest numbers that "
            + "came.", () -> {
            Bags x = with("5x1000000", "5x1", "5x2", "5x3");
            is(x.flow(5), 5);
            is(x.text(0, false) + " " + x.text(1, false) + " " + x.text(2, false) + " " + x.text(3, false),
                "5x1000000 5x1 5x2 5x3");
        });
        sentence("Its calls: copies are put and taken", () -> is(with("5x3").take(0, 5, 1), 1));
        sentence("One asks for ranks, for the copy at a place", () -> is(with("5x3").rank(0, 6), 3));
        sentence("An object is used for at most 512 calls after it has been made", () -> {
            Bags knocked = new Bags();
            Bags flowing = new Bags();
            Bags putting = new Bags();
            for (int call = 1; call <= 512; call++) {
                is(knocked.knock(), call);
                is(flowing.flow(call), Math.max(call - 4, (call + 1) / 2));
                is(putting.put(3, 999, 1), call);
            }
        });
    }

    private static void numbersOfBags() {
        part("1. Bags");
        sentence("What is divided is divided rounding toward 0.", () -> {
            Bags x = with("1x1 2x2 3x3 4x999999");
            is(x.thin(0, 2), 1);
            is(x.text(0, false), "2x1 3x1 4x499999");
            Bags y = with("1x1 2x1 3x1 4x1");
            is(y.ofBag(0, 9), 2);
            is(y.share(0, 3, 0, 0), 1);
            is(new Bags().ofBag(0, 9), NONE);
        });
        sentence("Numbers are whole.", () -> is(with("1x1 2x1").ofBag(0, 9), 1));
        sentence("NONE is -9999", () -> is(new Bags().pick(0, true), -9999));
        sentence("-9 is told as it is written", () -> {
            is(new Bags().none(), -9);
            is(new Bags().within(0, 1, 0, true), -9);
            minusNine();
        });
        sentence("There are four BAGS, 0 to 3, empty at first.", () -> {
            Bags x = new Bags();
            for (int bag = 0; bag <= 3; bag++) {
                is(x.ofBag(bag, 0), 0);
                is(x.put(bag, 7, bag + 1), bag + 1);
            }
            for (int bag = 0; bag <= 3; bag++) {
                is(x.text(bag, false), "7x" + (bag + 1));
            }
            index(x, () -> x.text(-1, false), () -> x.text(4, false));
        });
        sentence("In each lie numbers of -999 to 999, each with a COUNT", () -> {
            Bags x = new Bags();
            for (int bag = 0; bag <= 3; bag++) {
                int told = bag;
                is(x.put(bag, -999, 1), 1);
                is(x.put(bag, 999, 1), 1);
                argument(x, () -> x.put(told, -1000, 1), () -> x.put(told, 1000, 1));
                is(x.text(bag, false), "-999x1 999x1");
            }
        });
        sentence("how many copies of it lie there, 0 to 1000000", () -> {
            Bags x = new Bags();
            is(x.count(0, 7), 0);
            is(x.put(0, 7, 1000000), 1000000);
            state(x, () -> x.put(0, 7, 1));
            is(x.count(0, 7), 1000000);
        });
        sentence("MEMBERS of a BAG are the numbers with a COUNT above 0.", () -> {
            Bags x = with("7x1 8x1");
            x.tell(0, 7, 0);
            is(x.text(0, false), "8x1");
            x.take(0, 8, 1);
            is(x.text(0, false), "");
            x.tell(0, 9, 0);
            is(x.ofBag(0, 1), 0);
            x.tell(0, 9, 1);
            is(x.ofBag(0, 1), 1);
        });
    }

    /** A number -9, and a 0, is nothing else than a number: what answers it does all that it does with another. */
    private static void minusNine() {
        int[] numbers = {-9, 0};
        for (int number : numbers) {
            Bags x = new Bags();
            x.put(0, number, 2);
            x.put(1, number, 3);
            is(x.pick(0, true), number);
            is(x.pick(0, false), number);
            is(x.pick(0, false), NONE);
            is(x.pour(1), number);
            is(x.flow(number), number);
            is(x.pull(true), number);
            is(x.oldest(), number);
            is(x.oldest(), NONE);
            is(x.poll(1, true), 2);
            is(x.books(2), number);
            is(x.shift(0, 1), NONE);
            x.put(2, number, 1);
            x.walk(2);
            is(x.step(), number);
            is(x.ofWalk(1), number);
            is(x.stepSet(2), 1);
            is(x.ofBag(2, 3), number);
            is(x.near(2, number, 1), number);
            is(x.shares(2, 2), number + " " + number);
            is(x.ofBag(0, 1) + x.ofBag(1, 1), 0);
            is(x.books(0), 0);
        }
    }

    private static void wholeBags() {
        sentence("KINDS: how many MEMBERS a BAG has, 40 at most.", () -> {
            Bags x = new Bags();
            for (int member = 1; member <= 40; member++) {
                x.put(0, member, 1);
                is(x.ofBag(0, 1), member);
            }
            state(x, () -> x.put(0, 41, 1));
            is(x.ofBag(0, 1), 40);
        });
        sentence("SIZE: all COUNTS together.", () -> {
            is(new Bags().ofBag(0, 0), 0);
            is(with("7x1").ofBag(0, 0), 1);
            is(fullOf(FULL).ofBag(0, 0), LARGEST_SIZE);
        });
        sentence("WEIGHT: the sum of each MEMBER times its COUNT.", () -> {
            Bags x = new Bags();
            is(x.ofBag(0, 2), 0);
            x.fill(0, 960, 999, 1, FULL);
            // 40 * (960 + 999) / 2 * 1000000, which is no int any more.
            is(x.ofBag(0, 2), 39180000000L);
            x.turn(0);
            is(x.ofBag(0, 2), -39180000000L);
            is(with("-4x3 0x9 6x2").ofBag(0, 2), 0);
        });
        sentence("LEAST and GREATEST are the least and the greatest MEMBER.", () -> {
            Bags x = with("7x1", "-999x1 0x1 999x1");
            is(x.ofBag(0, 3), 7);
            is(x.ofBag(0, 4), 7);
            is(x.ofBag(1, 3), -999);
            is(x.ofBag(1, 4), 999);
            is(x.ofBag(2, 3), NONE);
            is(x.ofBag(2, 4), NONE);
        });
        sentence("The MODE is the MEMBER with the greatest COUNT; of several the least one.", () -> {
            is(with("1x2 5x3 9x3").ofBag(0, 8), 5);
            is(with("1x2 5x3 9x4").ofBag(0, 8), 9);
            is(with("-3x3 1x3 9x3").ofBag(0, 8), -3);
            is(with("9x1").ofBag(0, 8), 9);
            is(new Bags().ofBag(0, 8), NONE);
        });
    }

    private static void overfull() {
        sentence("if it had more than 40 KINDS", () -> {
            Bags x = fullOf(1);
            x.lens(0, 1, 0, 999);
            x.put(1, 0, 1);
            x.flow(0);
            state(x, () -> x.put(0, 0, 1), () -> x.tell(0, 0, 1), () -> x.place(0, 0, 1, true),
                () -> x.fill(0, 0, 0, 1, 1), () -> x.fill(0, 0, 1, 1, 1), () -> x.combine(0, 1, 2, 0),
                () -> x.combine(0, 1, 0, 1), () -> x.combine(1, 0, 1, 4), () -> x.mend(0, 1, 1),
                () -> x.lensPut(0, 0, 1), () -> x.harvest(0));
            x.take(0, 40, 1);
            is(x.combine(0, 1, 2, 0), 40);
            is(x.mend(0, 1, 1), 1);
            is(x.ofBag(0, 1), 40);
        });
        sentence("or a COUNT above 1000000", () -> {
            Bags x = with("7x1000000 8x1", "7x1");
            x.lens(0, 1, 0, 999);
            x.flow(7);
            state(x, () -> x.put(0, 7, 1), () -> x.fill(0, 7, 7, 1, 1), () -> x.combine(0, 1, 2, 0),
                () -> x.combine(0, 0, 0, 0), () -> x.grow(0, 2), () -> x.lensPut(0, 7, 1), () -> x.harvest(0));
            x.take(0, 7, 1);
            is(x.combine(0, 1, 2, 0), 1000001);
            is(x.harvest(0), 1);
            is(x.count(0, 7), 1000000);
        });
        sentence("behind a change that is done as a whole; no such change is done", () -> {
            Bags x = with("1x1 2x1000000", "1x500000 2x500001");
            x.flow(1);
            x.flow(2);
            // The first number alone would do.
            state(x, () -> x.fill(0, 1, 2, 1, 1), () -> x.grow(1, 2), () -> x.harvest(0), () -> x.combine(0, 1, 0, 0));
            is(x.text(0, false), "1x1 2x1000000");
            is(x.halves(), "1|2");
        });
        sentence("(what lies between, while it is done, does not matter)", () -> {
            Bags x = fullOf(1);
            x.put(1, 0, 1);
            // The first change makes 41 kinds, the second 40 again.
            state(x, () -> x.mend(0, 1, 1));
            is(x.mend(0, 1, 2), 2);
            is(x.ofBag(0, 1), 40);
            is(x.mend(0, 1, 39), 39);
            is(x.text(0, false), "0x1");
            Bags y = fullOf(FULL);
            is(y.combine(0, 0, 0, 4), 0);
            y.fill(0, 1, 40, 1, FULL);
            y.fill(1, 101, 140, 1, FULL);
            is(y.combine(0, 1, 0, 3), LARGEST_SIZE);
            is(y.combine(0, 1, 1, 2), 0);
        });
    }

    private static void books() {
        sentence("LAST: the MEMBER that was polled latest, and the COUNT that it had then (by poll() and lensPoll(); "
            + "NONE and 0 at first).", () -> {
            Bags x = with("1x1 2x2 3x3 4x4 5x5 6x6 7x7");
            x.lens(0, 2, 4, 0);
            x.pick(0, true);
            x.take(0, 7, 6);
            x.lensTake(0, 6);
            x.pour(0);
            x.purge(0, 2);
            is(x.books(2), NONE);
            is(x.books(3), 0);
            is(x.poll(0, false), 3);
            is(x.books(2), 3);
            is(x.books(3), 3);
            x.put(0, 3, 9);
            is(x.lensPoll(0), 5);
            is(x.books(2), 5);
            is(x.books(3), 5);
            x.lensPut(0, 5, 8);
            x.lensClear(0);
            x.clear(0);
            x.poll(0, true);
            x.lensPoll(0);
            is(x.books(2), 5);
            is(x.books(3), 5);
        });
        sentence("LAPSES: how often lens(), lensPut() or none() told -9 (0 at first).", () -> {
            Bags x = new Bags();
            is(x.books(0), 0);
            is(x.none(), -9);
            is(x.books(0), 1);
            is(x.lens(0, 0, 1, 0), -9);
            is(x.books(0), 2);
            is(x.lens(0, 0, 0, 1), 0);
            is(x.lensPut(0, 1, 1), -9);
            is(x.books(0), 3);
            is(x.within(0, 1, 0, true), -9);
            is(x.lens(0, 1, 1, 0), 0);
            is(x.lens(0, 0, 1, 1), 0);
            is(x.flow(-9), -9);
            thrownBy(() -> x.lens(4, 0, 1, 0));
            thrownBy(() -> x.lensPut(1, 5, 1));
            is(x.books(0), 3);
        });
    }

    private static void ranksAndShares() {
        part("2. Ranks and shares");
        sentence("The PLACES of a BAG are 0 to SIZE - 1: its copies are thought of as a row, by rising "
            + "numbers.", () -> {
            Bags x = with("-3x2 0x1 4x3");
            int[] row = {-3, -3, 0, 4, 4, 4};
            for (int place = 0; place < row.length; place++) {
                is(x.select(0, place), row[place]);
            }
            index(x, () -> x.select(0, -1), () -> x.select(0, 6), () -> x.select(1, 0));
            Bags full = fullOf(FULL);
            is(full.select(0, 39999999), 40);
            index(full, () -> full.select(0, 40000000));
        });
        sentence("The RANK of a number (a MEMBER or not) is how many copies of lesser numbers lie in the BAG.", () -> {
            Bags x = with("-3x2 0x1 4x3", "-999x1000000 999x1");
            int[][] ranks = {{-999, 0}, {-4, 0}, {-3, 0}, {-2, 2}, {-1, 2}, {0, 2}, {1, 3}, {4, 3}, {5, 6}, {999, 6}};
            for (int[] rank : ranks) {
                is(x.rank(0, rank[0]), rank[1]);
            }
            is(x.rank(1, -999), 0);
            is(x.rank(1, -998), FULL);
            is(x.rank(1, 999), FULL);
            is(x.rank(2, 999), 0);
            is(fullOf(FULL).rank(0, 999), LARGEST_SIZE);
        });
        sentence("The SELECT of a PLACE k is the MEMBER of which a copy is at k: RANK of it is no more than k, "
            + "and RANK and COUNT of it together are more than k.", () -> {
            Bags x = with("-3x2 0x1 4x3 9x1");
            for (int place = 0; place < 7; place++) {
                int member = x.select(0, place);
                is(x.rank(0, member) <= place, true);
                is(x.rank(0, member) + x.count(0, member) > place, true);
            }
            Bags full = fullOf(FULL);
            is(full.select(0, FULL - 1), 1);
            is(full.select(0, FULL), 2);
            is(full.select(0, 39 * FULL - 1), 39);
            is(full.select(0, 39 * FULL), 40);
        });
        sentence("The LOWER MIDDLE is the SELECT of (SIZE - 1) / 2, the UPPER MIDDLE the SELECT of SIZE / 2; "
            + "both are NONE, if the BAG is empty.", () -> {
            String[] bags = {"", "5x1", "5x1 6x1", "5x1 6x1 7x1", "5x1 6x1 7x1 8x1", "5x2 6x2", "5x2 6x3", "5x3 6x3"};
            int[][] middles = {{NONE, NONE}, {5, 5}, {5, 6}, {6, 6}, {6, 7}, {5, 6}, {6, 6}, {5, 6}};
            for (int i = 0; i < bags.length; i++) {
                Bags x = with(bags[i]);
                is(x.ofBag(0, 9), middles[i][0]);
                is(x.ofBag(0, 10), middles[i][1]);
            }
            is(fullOf(FULL).ofBag(0, 9), 20);
            is(fullOf(FULL).ofBag(0, 10), 21);
        });
        shares();
    }

    private static void shares() {
        sentence("To SHARE a BAG out among so many (1 to 20), numbered from 0", () -> {
            Bags x = with("5x1 6x1 7x1");
            is(x.share(0, 1, 0, 0), 3);
            is(x.share(0, 20, 19, 1), 7);
            is(x.shares(0, 1), "5");
            is(x.shares(0, 20), "- - - - - - 5 - - - - - - 6 - - - - - 7");
            argument(x, () -> x.share(0, 0, 0, 0), () -> x.share(0, 21, 0, 0), () -> x.shares(0, 0),
                () -> x.shares(0, 21), () -> x.share(0, 20, 20, 0), () -> x.share(0, 20, -1, 0));
        });
        sentence("the SHARE i has the copies at the PLACES from SIZE * i / many on, up to the one ahead of "
            + "SIZE * (i + 1) / many", () -> {
            // 10 copies among 4: the places 0 and 1, 2 to 4, 5 and 6, 7 to 9.
            Bags x = with("0x1 1x1 2x1 3x1 4x1 5x1 6x1 7x1 8x1 9x1");
            long[][] shares = {{2, 0, 1, 2, 1}, {3, 2, 4, 3, 9}, {2, 5, 6, 2, 11}, {3, 7, 9, 3, 24}};
            for (int one = 0; one < 4; one++) {
                for (int what = 0; what <= 4; what++) {
                    is(x.share(0, 4, one, what), shares[one][what]);
                }
            }
            is(x.shares(0, 4), "0 2 5 7");
        });
        sentence("(the product first)", () -> {
            // 5 * 3 / 4 is 3; 5 / 4 * 3 and 3 / 4 * 5 would not be.
            is(with("0x1 1x1 2x1 3x1 4x1").share(0, 4, 3, 1), 3);
            // SIZE * i is no int any more: 40000000 * 19 / 20 is 38000000.
            Bags full = fullOf(FULL);
            is(full.share(0, 20, 19, 0), 2000000);
            is(full.share(0, 20, 19, 1), 39);
            is(full.share(0, 20, 18, 2), 38);
            is(full.share(0, 20, 19, 4), 79000000);
        });
        sentence("it may have none", () -> {
            Bags x = with("7x1");
            long[] none = {0, NONE, NONE, 0, 0};
            for (int what = 0; what <= 4; what++) {
                is(x.share(0, 2, 0, what), none[what]);
                is(x.share(1, 1, 0, what), none[what]);
            }
            is(x.share(0, 2, 1, 0), 1);
            is(x.shares(0, 2), "- 7");
        });
    }

    private static void twoBags() {
        part("3. Two bags");
        sentence("Of two BAGS (one and the same may be told twice) five others are thought of, number by "
            + "number", () -> {
            Bags x = with("1x5 2x1");
            long[] sizes = {12, 6, 6, 0, 0};
            long[] kinds = {2, 2, 2, 0, 0};
            for (int how = 0; how <= 4; how++) {
                is(x.would(0, 0, how, false), sizes[how]);
                is(x.would(0, 0, how, true), kinds[how]);
            }
            is(x.distance(0, 0), 0);
            is(x.isIn(0, 0), true);
            is(x.isSame(0, 0), true);
            is(x.mend(0, 0, 1), 0);
            is(x.combine(0, 0, 1, 0), 12);
            is(x.text(1, false), "1x10 2x2");
        });
        sentence("SUM with both COUNTS together; JOIN with the greater one of both; MEET with the lesser one;", () -> {
            Bags x = with("1x5 2x1 3x2", "2x4 3x2 9x1");
            x.combine(0, 1, 2, 0);
            is(x.text(2, false), "1x5 2x5 3x4 9x1");
            x.combine(0, 1, 2, 1);
            is(x.text(2, false), "1x5 2x4 3x2 9x1");
            x.combine(0, 1, 2, 2);
            is(x.text(2, false), "2x1 3x2");
            x.combine(0, 3, 2, 0);
            is(x.text(2, false), "1x5 2x1 3x2");
            x.combine(3, 0, 2, 2);
            is(x.text(2, false), "");
        });
        sentence("LESS with the COUNT of the first BAG less that of the second one, 0 at least", () -> {
            Bags x = with("1x5 2x1 3x2", "2x4 3x2 9x1");
            x.combine(0, 1, 2, 3);
            is(x.text(2, false), "1x5");
            x.combine(1, 0, 2, 3);
            is(x.text(2, false), "2x3 9x1");
            is(x.would(0, 1, 3, false), 5);
            is(x.would(1, 0, 3, false), 4);
            is(x.would(3, 0, 3, false), 0);
        });
        sentence("APART with what both differ by (without a sign)", () -> {
            Bags x = with("1x5 2x1 3x2", "2x4 3x2 9x1");
            x.combine(0, 1, 2, 4);
            is(x.text(2, false), "1x5 2x3 9x1");
            x.combine(1, 0, 2, 4);
            is(x.text(2, false), "1x5 2x3 9x1");
        });
        sentence("The DISTANCE of two BAGS is the SIZE of APART.", () -> {
            Bags x = fullOf(FULL);
            x.fill(1, 101, 140, 1, FULL);
            is(x.distance(0, 1), 2 * LARGEST_SIZE);
            is(x.distance(1, 0), 2 * LARGEST_SIZE);
            is(x.distance(0, 2), LARGEST_SIZE);
            is(x.distance(2, 3), 0);
        });
        sentence("A CHANGE puts one copy into a BAG, or takes one out.", () -> {
            Bags x = with("1x1", "1x2", "1x3");
            is(x.mend(0, 1, 1), 1);
            is(x.count(0, 1), 2);
            is(x.mend(2, 1, 1), 1);
            is(x.count(2, 1), 2);
        });
        isIn();
        mending();
    }

    private static void isIn() {
        sentence("A BAG is IN another one if no number has a greater COUNT in it than in that other one", () -> {
            Bags x = with("1x2 3x4", "1x2 2x1 3x5", "1x3 3x4");
            is(x.isIn(0, 1), true);
            is(x.isIn(1, 0), false);
            is(x.isIn(0, 2), true);
            is(x.isIn(2, 0), false);
            is(x.isIn(2, 1), false);
            is(x.isIn(1, 2), false);
        });
        sentence("(an empty one is IN each)", () -> {
            Bags x = with("1x1");
            is(x.isIn(1, 0), true);
            is(x.isIn(1, 2), true);
            is(x.isIn(1, 1), true);
            is(x.isIn(0, 1), false);
        });
    }

    private static void mending() {
        sentence("number by number, from the least one on that is a MEMBER of either", () -> {
            Bags x = with("3x1 9x1", "1x1 7x1");
            String[] then = {"1x1 3x1 9x1", "1x1 9x1", "1x1 7x1 9x1", "1x1 7x1"};
            for (String text : then) {
                is(x.mend(0, 1, 1), 1);
                is(x.text(0, false), text);
            }
            is(x.mend(0, 1, 1), 0);
        });
        sentence("CHANGES are made (each brings the COUNT of that number nearer to that in the other BAG by 1) till both "
            + "COUNTS are alike, then the next number", () -> {
            Bags x = with("1x5 2x1", "1x2 2x4");
            is(x.mend(0, 1, 2), 2);
            is(x.text(0, false), "1x3 2x1");
            is(x.mend(0, 1, 1), 1);
            is(x.text(0, false), "1x2 2x1");
            is(x.mend(0, 1, 2), 2);
            is(x.text(0, false), "1x2 2x3");
        });
        sentence("it ends as all are alike, or as no CHANGE is left", () -> {
            Bags x = with("1x5 2x1", "1x2 2x4");
            is(x.mend(0, 1, 7), 6);
            is(x.isSame(0, 1), true);
            is(x.mend(0, 1, FULL), 0);
            Bags y = with("1x5 2x1", "1x2 2x4");
            is(y.mend(0, 1, 6), 6);
            is(y.isSame(0, 1), true);
            Bags z = with("1x5 2x1", "1x2 2x4");
            is(z.mend(0, 1, 5), 5);
            is(z.distance(0, 1), 1);
            Bags far = fullOf(FULL);
            is(far.mend(1, 0, FULL), FULL);
            is(far.text(1, false), "1x1000000");
        });
    }

    private static void lens() {
        part("4. The lens of a bag");
        sentence("A BAG has no LENS at first, and one at most.", () -> {
            Bags x = with("1x1", "1x1", "1x1", "1x1");
            for (int bag = 0; bag <= 3; bag++) {
                int told = bag;
                is(x.ofLens(bag, 0), -1);
                state(x, () -> x.lensPut(told, 1, 1), () -> x.lensTake(told, 1), () -> x.lensPoll(told),
                    () -> x.lensClear(told));
                is(x.lens(bag, 0, 0, 1), 0);
                is(x.lens(bag, 2, 0, 1), 1);
                is(x.ofLens(bag, 0), 2);
                is(x.lensPut(bag, 0, 1), -9);
            }
        });
        sentence("A LENS has a FORM and BOUNDS, FROM and TO, each -999 to 999.", () -> {
            Bags x = with("-999x1 998x1 999x1");
            is(x.lens(0, 0, -999, 999), 2);
            is(x.lens(0, 0, 999, 999), 0);
            is(x.lens(0, 0, -999, -999), 0);
            for (int form = 0; form <= 2; form++) {
                int told = form;
                argument(x, () -> x.lens(0, told, -1000, 0), () -> x.lens(0, told, 1000, 0),
                    () -> x.lens(0, told, 0, -1000), () -> x.lens(0, told, 0, 1000));
            }
        });
        sentence("0: the numbers n with FROM <= n < TO;", () -> {
            reaches(0, -2, 3, -2, 2);
            reaches(0, -2, -1, -2, -2);
            reaches(0, 998, 999, 998, 998);
            is(with("-2x1").lens(0, 0, -2, -2), 0);
        });
        sentence("1: those with n <= TO;", () -> {
            reaches(1, 5, 3, -999, 3);
            reaches(1, 0, -999, -999, -999);
            reaches(1, 0, 999, -999, 999);
        });
        sentence("2: those with n > FROM.", () -> {
            reaches(2, 3, -5, 4, 999);
            reaches(2, 998, 0, 999, 999);
            reaches(2, -999, 0, -998, 999);
            Bags x = with("999x1");
            is(x.lens(0, 2, 999, 0), 0);
            is(x.lensPut(0, 999, 1), -9);
        });
        lensAsItIs();
        lensStays();
    }

    /** A lens that is told so reaches from the least to the greatest number that are told, and no farther. */
    private static void reaches(int form, int from, int to, int least, int greatest) {
        Bags x = new Bags();
        x.lens(0, form, from, to);
        is(x.ofLens(0, 0), form);
        is(x.lensPut(0, least, 1) > 0, true);
        is(x.lensPut(0, greatest, 1) > 0, true);
        if (least > -999) {
            is(x.lensPut(0, least - 1, 1), -9);
            x.put(0, least - 1, 1);
        }
        if (greatest < 999) {
            is(x.lensPut(0, greatest + 1, 1), -9);
            x.put(0, greatest + 1, 1);
        }
        is(x.ofLens(0, 3), least);
        is(x.ofLens(0, 4), greatest);
        is(x.lensClear(0), 2);
        is(x.ofBag(0, 1), (least > -999 ? 1 : 0) + (greatest < 999 ? 1 : 0));
    }

    private static void lensAsItIs() {
        sentence("In a LENS lies what lies in its BAG within its REACH, as it is now", () -> {
            Bags x = with("0x1 1x2 5x3 6x4");
            is(x.lens(0, 0, 1, 6), 2);
            is(x.ofLens(0, 2), 5);
            is(x.lens(1, 0, 1, 6), 0);
            is(x.ofLens(1, 3), NONE);
        });
        sentence("what is put into the BAG or taken out of it shows in the LENS", () -> {
            Bags x = new Bags();
            x.lens(0, 0, 1, 6);
            x.put(0, 1, 2);
            is(x.ofLens(0, 2), 2);
            x.put(0, 6, 2);
            is(x.ofLens(0, 2), 2);
            x.fill(0, 4, 9, 1, 1);
            is(x.ofLens(0, 1), 3);
            is(x.ofLens(0, 4), 5);
            x.poll(0, false);
            is(x.ofLens(0, 3), 4);
            x.clear(0);
            is(x.ofLens(0, 2), 0);
            is(x.ofLens(0, 0), 0);
        });
        sentence("what is put or taken through the LENS is put into the BAG, or taken out of it", () -> {
            Bags x = with("0x1 7x1");
            x.lens(0, 0, 1, 6);
            is(x.lensPut(0, 1, 2), 2);
            is(x.lensPut(0, 5, 3), 3);
            is(x.lensPut(0, 3, 1), 1);
            is(x.text(0, false), "0x1 1x2 3x1 5x3 7x1");
            is(x.lensTake(0, 5), 3);
            is(x.text(0, false), "0x1 1x2 3x1 7x1");
            is(x.lensPoll(0), 2);
            is(x.text(0, false), "0x1 3x1 7x1");
            is(x.lensClear(0), 1);
            is(x.text(0, false), "0x1 7x1");
        });
    }

    private static void lensStays() {
        sentence("A LENS stays, whatever comes into its BAG, till a new one is told.", () -> {
            Bags x = with("1x1 5x2", "1x1 6x1", "0x3 2x2 9x1");
            x.lens(0, 0, 1, 6);
            x.lens(1, 1, 0, 1);
            On[] comes = {
                y -> y.clear(0), y -> y.copy(2, 0), y -> y.copy(1, 0), y -> y.combine(1, 2, 0, 0),
                y -> y.sift(0, 1, true), y -> y.turn(0), y -> y.shift(0, 3), y -> y.grow(0, 2), y -> y.thin(0, 2),
                y -> y.mend(0, 2, 3), y -> y.purge(0, 1), y -> y.fill(0, -5, 5, 5, 1), y -> y.poll(0, true),
                y -> y.harvest(0), y -> y.pour(0), y -> y.lens(0, 0, 6, 1), y -> y.lensClear(0), y -> y.copy(0, 1),
                y -> y.walk(0), y -> y.tell(0, 3, 1),
            };
            for (On change : comes) {
                change.make(x);
                is(x.ofLens(0, 0), 0);
                is(x.ofLens(0, 1), x.within(0, 1, 5, true));
                is(x.ofLens(0, 2), x.within(0, 1, 5, false));
                is(x.ofLens(1, 0), 1);
                is(x.ofLens(1, 2), x.within(1, -999, 1, false));
            }
            is(x.ofLens(2, 0), -1);
            is(x.lens(0, 1, 0, -5), x.within(0, -999, -5, true));
            is(x.ofLens(0, 0), 1);
        });
    }

    private static void walk() {
        part("5. The walk");
        sentence("There is one WALK at most (none at first).", () -> {
            Bags x = with("1x1", "2x1");
            is(x.ofWalk(0), -1);
            state(x, () -> x.step(), () -> x.stepSet(1));
            x.walk(0);
            x.walk(1);
            is(x.ofWalk(0), 1);
            // That over bag 0 is gone: its bag may change now.
            x.put(0, 9, 1);
            is(x.step(), 2);
        });
        sentence("It goes over the MEMBERS of a BAG, from the LEAST one on.", () -> {
            Bags x = with("4x1 -999x1 999x1 0x1 -3x2");
            int[] members = {-999, -3, 0, 4, 999, NONE};
            is(x.walk(0), 5);
            for (int member : members) {
                is(x.step(), member);
            }
            Bags full = fullOf(1);
            is(full.walk(0), 40);
            for (int member = 1; member <= 40; member++) {
                is(full.step(), member);
            }
            is(full.step(), NONE);
            is(full.ofWalk(3), 40);
        });
        sentence("AT is the MEMBER at which it stands: NONE as it begins, then by step() the next one, each "
            + "time.", () -> {
            Bags x = with("4x1 6x1");
            x.walk(0);
            is(x.ofWalk(1), NONE);
            x.step();
            is(x.ofWalk(1), 4);
            x.step();
            is(x.ofWalk(1), 6);
            x.step();
            is(x.ofWalk(1), 6);
            x.walk(1);
            is(x.ofWalk(1), NONE);
        });
        sentence("SEEN: how many steps were done.", () -> {
            Bags x = with("4x1 6x1");
            x.walk(0);
            int[] seen = {0, 1, 2, 2, 2};
            for (int steps : seen) {
                is(x.ofWalk(3), steps);
                x.step();
            }
            x.walk(0);
            is(x.ofWalk(3), 0);
        });
        walkEnds();
        sentence("Only stepSet() changes its BAG without ending it.", () -> {
            Bags x = with("4x1 6x1");
            keepsWalk(x, () -> x.stepSet(5));
            keepsWalk(x, () -> x.stepSet(FULL));
            is(x.text(0, false), "4x1000000 6x1");
            // A walk that stands at the last member goes on, too.
            x.step();
            is(x.stepSet(2), 1);
            is(x.ofWalk(1), 6);
            is(x.ofWalk(2), 2);
            is(x.ofWalk(3), 2);
        });
    }

    private static void walkEnds() {
        sentence("The WALK ends as a new one begins", () -> {
            Bags x = with("4x1 6x1");
            x.walk(0);
            x.step();
            is(x.walk(0), 2);
            is(x.ofWalk(1), NONE);
            is(x.ofWalk(3), 0);
            is(x.walk(2), 0);
            is(x.ofWalk(0), 2);
            is(x.ofWalk(4), 0);
        });
        sentence("and as a method that can change its BAG tells a result", () -> {
            On[] changes = {
                x -> x.put(0, 1, 1), x -> x.take(0, 1, 1), x -> x.tell(0, 1, 9), x -> x.place(0, 1, 9, false),
                x -> x.swap(0, 1, 4, 5), x -> x.poll(0, false), x -> x.pick(0, false), x -> x.clear(0),
                x -> x.fill(0, 1, 2, 1, 1), x -> x.sift(0, 1, true), x -> x.purge(0, 4), x -> x.thin(0, 2),
                x -> x.grow(0, 2), x -> x.shift(0, 1), x -> x.turn(0), x -> x.mend(0, 1, 1), x -> x.lensPut(0, 1, 1),
                x -> x.lensTake(0, 1), x -> x.lensPoll(0), x -> x.lensClear(0), x -> x.pour(0), x -> x.harvest(0),
                x -> x.copy(1, 0), x -> x.combine(0, 1, 0, 0),
            };
            for (On change : changes) {
                Bags x = with("1x4 2x3", "2x1");
                x.lens(0, 1, 0, 3);
                x.flow(1);
                x.walk(0);
                x.step();
                String before = x.text(0, false);
                change.make(x);
                is(x.text(0, false).equals(before), false);
                noWalk(x);
            }
        });
        sentence("even if nothing became otherwise by it (-9 of lensPut() is a result, too)", () -> {
            On[] changes = {
                x -> x.take(0, 9, 1), x -> x.tell(0, 1, 4), x -> x.tell(0, 9, 0), x -> x.place(0, 1, 9, true),
                x -> x.place(0, 9, 9, false), x -> x.place(0, 1, 4, false), x -> x.swap(0, 1, 3, 5),
                x -> x.swap(0, 1, 4, 4), x -> x.fill(0, 2, 1, 1, 1), x -> x.sift(0, 1, false), x -> x.purge(0, 5),
                x -> x.shift(0, 0), x -> x.mend(0, 0, 1), x -> x.lensPut(0, 4, 1), x -> x.lensTake(0, 4),
                x -> x.harvest(0), x -> x.copy(0, 0), x -> x.combine(0, 0, 0, 1), x -> x.combine(0, 1, 0, 3),
            };
            for (On change : changes) {
                Bags x = with("1x4 2x3", "");
                x.lens(0, 1, 0, 3);
                unchangedButNoWalk(x, change);
            }
            On[] ofTheEmpty = {
                x -> x.poll(0, true), x -> x.poll(0, false), x -> x.pick(0, true), x -> x.pick(0, false),
                x -> x.clear(0), x -> x.thin(0, 2), x -> x.grow(0, 2), x -> x.shift(0, 5), x -> x.turn(0),
                x -> x.lensPoll(0), x -> x.lensClear(0), x -> x.pour(0),
            };
            for (On change : ofTheEmpty) {
                Bags x = with("", "1x1");
                x.lens(0, 1, 0, 3);
                unchangedButNoWalk(x, change);
            }
        });
        sentence("for the BAG that is told (of mend and sift the first one), copy and combine for the BAG "
            + "\"to\"", () -> {
            On[] ofOthers = {
                x -> x.put(1, 1, 1), x -> x.take(1, 1, 1), x -> x.tell(1, 1, 9), x -> x.place(1, 1, 9, true),
                x -> x.swap(1, 1, 4, 5), x -> x.poll(1, true), x -> x.pick(1, true), x -> x.clear(1),
                x -> x.fill(1, 1, 2, 1, 1), x -> x.sift(1, 0, true), x -> x.purge(1, 4), x -> x.thin(1, 2),
                x -> x.grow(1, 2), x -> x.shift(1, 1), x -> x.turn(1), x -> x.mend(1, 0, 1), x -> x.lensPut(1, 1, 1),
                x -> x.lensTake(1, 1), x -> x.lensPoll(1), x -> x.lensClear(1), x -> x.pour(1), x -> x.harvest(1),
                x -> x.copy(0, 1), x -> x.combine(0, 0, 1, 0), x -> x.lens(0, 1, 0, 3), x -> x.lens(0, 0, 1, 0),
                x -> x.window(1), x -> x.flow(1), x -> x.leave(1), x -> x.pull(true), x -> x.oldest(), x -> x.none(),
                x -> x.knock(),
            };
            for (On change : ofOthers) {
                Bags x = with("1x4 2x3", "1x4 7x1");
                x.lens(1, 1, 0, 3);
                x.flow(1);
                keepsWalk(x, () -> change.make(x));
                is(x.step(), 2);
            }
        });
    }

    private static void noWalk(Bags x) {
        int[] none = {-1, NONE, 0, 0, 0};
        for (int what = 0; what <= 4; what++) {
            is(x.ofWalk(what), none[what]);
        }
        state(x, () -> x.step(), () -> x.stepSet(1));
    }

    private static void unchangedButNoWalk(Bags x, On change) {
        x.walk(0);
        x.step();
        String before = x.text(0, false);
        change.make(x);
        is(x.text(0, false), before);
        noWalk(x);
    }

    private static void window() {
        part("6. The window");
        sentence("VALUES, -999 to 999, come one by one; the WINDOW holds the latest ones", () -> {
            Bags x = new Bags();
            is(x.flow(-999), -999);
            is(x.flow(999), -999);
            argument(x, () -> x.flow(-1000), () -> x.flow(1000));
            is(x.halves(), "-999|999");
        });
        sentence("LENGTH at most (1 to 30; 9 at first), in the order in which they came.", () -> {
            int[] lengths = {1, 9, 30};
            for (int length : lengths) {
                Bags x = new Bags();
                is(x.ofWindow(1), 9);
                is(x.window(length), 0);
                for (int i = 1; i <= length; i++) {
                    x.flow(100 - i);
                    is(x.ofWindow(0), i);
                }
                x.flow(50);
                is(x.ofWindow(0), length);
                is(x.ofWindow(6), length == 1 ? 50 : 98);
                is(x.ofWindow(7), 50);
            }
            Bags x = flowed(9, 5, 1, 5, 3, 1);
            argument(x, () -> x.window(0), () -> x.window(31));
            is(drained(x), "5 1 5 3 1");
            Bags first = new Bags();
            for (int i = 1; i <= 10; i++) {
                first.flow(i);
            }
            is(drained(first), "2 3 4 5 6 7 8 9 10");
        });
        sentence("If there are more than LENGTH, the oldest ones fall out.", () -> {
            is(drained(flowed(3, 7, 6, 5, 6)), "6 5 6");
            is(drained(flowed(1, 7, 6)), "6");
            Bags x = flowed(9, 1, 2, 3, 4);
            is(x.window(4), 0);
            is(x.window(2), 2);
            is(drained(x), "3 4");
        });
        sentence("Some can leave otherwise (told below); the others stay in their order.", () -> {
            Bags x = flowed(9, 5, 1, 7, 5, 3, 1);
            x.leave(5);
            is(drained(x), "1 7 5 3 1");
            Bags y = flowed(9, 5, 1, 7, 5, 3, 1);
            y.pull(true);
            is(drained(y), "5 1 7 5 1");
            Bags z = flowed(9, 5, 1, 7, 5, 3, 1);
            z.pull(false);
            is(drained(z), "1 7 5 3 1");
            Bags u = flowed(9, 5, 1, 7, 5, 3, 1);
            u.oldest();
            u.leave(1);
            is(drained(u), "7 5 3 1");
        });
        halves();
    }

    private static void halves() {
        sentence("Of N VALUES in the WINDOW the LOWER HALF has the (N + 1) / 2 least ones, the UPPER HALF the "
            + "others", () -> {
            Bags x = flowed(30);
            int[] lower = {0, 1, 1, 2, 2, 3, 3};
            for (int number = 0; number <= 6; number++) {
                is(x.ofWindow(4), lower[number]);
                is(x.ofWindow(5), number - lower[number]);
                x.flow(10 - number);
            }
            is(flowed(9, 9, 8, 7).halves(), "8,7|9");
            is(flowed(9, 9, 8, 7, 6).halves(), "7,6|8,9");
        });
        sentence("(of VALUES that are alike it does not matter which)", () -> {
            Bags x = flowed(9, 4, 4, 4);
            is(x.halves(), "4,4|4");
            is(x.ofWindow(2), 4);
            is(x.ofWindow(3), 4);
            x.flow(1);
            is(x.halves(), "4,1|4,4");
        });
        sentence("The MEDIAN is the greatest VALUE of the LOWER HALF, the UPPER MEDIAN the least one of the UPPER HALF; "
            + "NONE, if there is none.", () -> {
            int[][] medians = {{NONE, NONE}, {5, NONE}, {5, 9}, {5, 9}, {5, 7}, {7, 8}};
            int[] values = {5, 9, 3, 7, 8};
            Bags x = new Bags();
            for (int number = 0; number < medians.length; number++) {
                is(x.ofWindow(2), medians[number][0]);
                is(x.ofWindow(3), medians[number][1]);
                if (number < values.length) {
                    x.flow(values[number]);
                }
            }
        });
    }

    private static void behindTheSections() {
        part("behind");
        sentence("A method that throws an exception changes nothing.", () -> {
            refused(Thrown.INDEX, x -> x.put(4, 0, 1), x -> x.clear(4), x -> x.poll(-1, true), x -> x.pick(4, true),
                x -> x.copy(0, 4), x -> x.combine(0, 1, 4, 0), x -> x.pour(4), x -> x.harvest(-1), x -> x.walk(4),
                x -> x.lens(4, 0, 9, 8), x -> x.select(0, 1000013), x -> x.turn(4), x -> x.lensPoll(4));
            refused(Thrown.ARGUMENT, x -> x.put(1, 4, 0), x -> x.take(1, 4, 0), x -> x.sift(1, 1, true),
                x -> x.thin(1, 1), x -> x.lens(0, 3, 9, 8), x -> x.lensPut(0, 1000, 1), x -> x.stepSet(0),
                x -> x.window(0), x -> x.window(31), x -> x.flow(1000), x -> x.leave(-1000), x -> x.mend(1, 0, 0));
            refused(Thrown.STATE, x -> x.put(3, 0, 1), x -> x.fill(3, 39, 41, 1, 1), x -> x.fill(0, 4, 30, 26, 1),
                x -> x.combine(3, 1, 1, 0), x -> x.grow(0, 2), x -> x.shift(0, 970), x -> x.shift(0, -993),
                x -> x.mend(3, 1, 2), x -> x.lensPut(1, -7, FULL), x -> x.lensPoll(3), x -> x.harvest(3));
            thrownOnTheWalk();
        });
        sentence("If several exceptions apply, the one that is named first is thrown.", DescriptionTest::firstNamed);
        sentence("What is asked changes nothing.", () -> asked(
            x -> x.ofLens(0, 1), x -> x.ofLens(3, 4), x -> x.lensCount(0, 0), x -> x.ofWalk(1), x -> x.ofWalk(4),
            x -> x.ofWindow(2), x -> x.ofWindow(9), x -> x.holds(6), x -> x.halves(), x -> x.wouldFlow(6),
            x -> x.wouldFlow(-999), x -> x.ofBag(1, 0), x -> x.ofBag(1, 10), x -> x.count(1, 4), x -> x.rank(1, 4),
            x -> x.select(1, 3), x -> x.within(1, -7, 4, true), x -> x.within(1, 4, -7, true), x -> x.near(1, 0, 3),
            x -> x.share(1, 3, 2, 4), x -> x.shares(1, 20), x -> x.isIn(1, 0), x -> x.isSame(1, 1),
            x -> x.distance(1, 3), x -> x.would(1, 3, 4, true), x -> x.text(1, true), x -> x.hasCount(1, 9),
            x -> x.books(0), x -> x.isSound(), x -> x.digest()));
    }

    /** Neither does the walk over that very bag end, nor any of its members change. */
    private static void thrownOnTheWalk() {
        Bags x = fullOf(FULL);
        x.put(1, 0, 1);
        x.flow(0);
        x.lens(0, 1, 0, 999);
        x.walk(0);
        x.step();
        argument(x, () -> x.put(0, 1, 0), () -> x.take(0, 1, 0), () -> x.tell(0, 1, -1), () -> x.place(0, 1, 0, true),
            () -> x.swap(0, 1, FULL, 0), () -> x.fill(0, 1, 1, 0, 1), () -> x.combine(0, 1, 0, 5),
            () -> x.sift(0, 0, true), () -> x.purge(0, 0), () -> x.thin(0, 1), () -> x.grow(0, 1001),
            () -> x.shift(0, 1000), () -> x.mend(0, 1, 0), () -> x.lensPut(0, 1, 0), () -> x.lensTake(0, 1000),
            () -> x.stepSet(0));
        state(x, () -> x.put(0, 0, 1), () -> x.put(0, 1, 1), () -> x.tell(0, 0, 1), () -> x.place(0, 0, 1, true),
            () -> x.fill(0, 0, 0, 1, 1), () -> x.fill(0, 0, 999, 1, 1), () -> x.combine(0, 1, 0, 0),
            () -> x.grow(0, 2), () -> x.shift(0, 960), () -> x.mend(0, 1, 1), () -> x.lensPut(0, 0, 1),
            () -> x.lensPut(0, 1, 1), () -> x.harvest(0));
        index(x, () -> x.copy(4, 0), () -> x.combine(4, 0, 0, 0), () -> x.sift(0, 4, true), () -> x.mend(0, 4, 1),
            () -> x.walk(4));
        is(x.ofWalk(1), 1);
        is(x.step(), 2);
        Bags y = with("1x1");
        y.walk(0);
        y.step();
        state(y, () -> y.lensPut(0, 1, 1), () -> y.lensTake(0, 1), () -> y.lensPoll(0), () -> y.lensClear(0));
        is(y.ofWalk(1), 1);
    }

    private static void firstNamed() {
        // All that is wrong at once: the bag is named first, what is told next, what stands in the bag last.
        refused(Thrown.INDEX, x -> x.put(4, 1000, 0), x -> x.take(-1, 1000, 0), x -> x.tell(4, 1000, -1),
            x -> x.place(4, 1000, 0, true), x -> x.swap(-1, 1000, 0, 0), x -> x.fill(4, 1000, 1000, 0, 0),
            x -> x.combine(4, 0, 0, 5), x -> x.combine(0, 4, 0, 5), x -> x.combine(0, 0, 4, 5),
            x -> x.sift(4, 4, true), x -> x.sift(-1, -1, true), x -> x.purge(4, 0), x -> x.thin(4, 1),
            x -> x.grow(4, 1), x -> x.shift(4, 1000), x -> x.mend(4, 0, 0), x -> x.mend(0, 4, 0),
            x -> x.lens(4, 3, 1000, 1000), x -> x.lensPut(4, 1000, 0), x -> x.lensTake(4, 1000),
            x -> x.ofLens(4, 5), x -> x.lensCount(4, 1000), x -> x.ofBag(4, 11), x -> x.count(4, 1000),
            x -> x.rank(4, 1000), x -> x.within(4, 1000, -1000, true), x -> x.near(4, 1000, 4),
            x -> x.share(4, 0, 0, 5), x -> x.shares(4, 21), x -> x.would(4, 0, 5, true), x -> x.would(0, 4, 5, true),
            x -> x.hasCount(4, 0));
        refused(Thrown.ARGUMENT, x -> x.put(3, 1000, 1), x -> x.put(0, 30, FULL + 1), x -> x.tell(3, 1000, 1),
            x -> x.tell(3, 0, FULL + 1), x -> x.place(3, 1000, 1, true), x -> x.place(3, 0, FULL + 1, true),
            x -> x.fill(3, 0, 1000, 1, 1), x -> x.fill(3, 0, 999, 0, 1), x -> x.fill(3, 0, 999, 1, 0),
            x -> x.fill(3, -1000, 999, 1, 1), x -> x.combine(0, 0, 0, 5), x -> x.grow(0, 1001),
            x -> x.shift(0, 1000), x -> x.shift(0, -1000), x -> x.mend(3, 1, 0), x -> x.mend(3, 1, FULL + 1),
            x -> x.lensPut(3, 1000, 1), x -> x.lensPut(3, 0, 0), x -> x.lensPut(0, -7, FULL + 1),
            x -> x.lensTake(3, 1000));
        Bags noWalk = new Bags();
        argument(noWalk, () -> noWalk.stepSet(0), () -> noWalk.stepSet(FULL + 1));
        noWalk.walk(0);
        argument(noWalk, () -> noWalk.stepSet(0), () -> noWalk.stepSet(FULL + 1));
    }

    public static void main(String[] arguments) {
        beforeTheSections();
        numbersOfBags();
        wholeBags();
        overfull();
        books();
        ranksAndShares();
        twoBags();
        lens();
        walk();
        window();
        behindTheSections();
        finish("DescriptionTest");
    }
}
