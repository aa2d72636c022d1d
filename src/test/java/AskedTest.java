/** The sentences of promises 43 to 60, what is asked of bags, with their boundaries. */
public final class AskedTest extends Sentences {
    private static final String NUMBER = "Throws `IllegalArgumentException` if member is not -999 to 999";
    private static final String TWO_BAGS = "Throws `IndexOutOfBoundsException` if one or other is not 0 to 3";

    /** A call for both bags that are told. */
    private interface Pair {
        void make(Bags x, int one, int other);
    }

    private static void twoBags(Pair call) {
        bags((x, bag) -> call.make(x, bag, 1));
        bags((x, bag) -> call.make(x, 1, bag));
        bags((x, bag) -> call.make(x, bag, bag));
    }

    private static void ofBag() {
        part("43: ofBag");
        sentence("0 SIZE, 1 KINDS, 2 WEIGHT, 3 LEAST, 4 GREATEST, 5 COUNT of LEAST, 6 COUNT of GREATEST, "
            + "7 the greatest COUNT, 8 the MODE, 9 the LOWER MIDDLE, 10 the UPPER MIDDLE", () -> {
            told(with("-3x2 0x5 4x5 9x1"), 13, 4, 23, -3, 9, 2, 1, 5, 0, 0, 0);
            told(with("999x1"), 1, 1, 999, 999, 999, 1, 1, 1, 999, 999, 999);
            told(with("-999x1000000 999x1000000"), 2000000, 2, 0, -999, 999, FULL, FULL, FULL, -999, -999, 999);
            told(with("1x2 3x3"), 5, 2, 11, 1, 3, 2, 3, 3, 3, 3, 3);
            Bags least = new Bags();
            least.fill(0, -999, -960, 1, FULL);
            told(least, LARGEST_SIZE, 40, -39180000000L, -999, -960, FULL, FULL, FULL, -999, -980, -979);
        });
        sentence("(if the BAG is empty: 3, 4, 8, 9 and 10 are NONE, the others 0)", () -> {
            told(new Bags(), 0, 0, 0, NONE, NONE, 0, 0, 0, NONE, NONE, NONE);
            Bags emptied = fullOf(FULL);
            emptied.clear(0);
            told(emptied, 0, 0, 0, NONE, NONE, 0, 0, 0, NONE, NONE, NONE);
        });
        sentence("Returns that.", () -> is(with("5x2").ofBag(0, 2), 10));
        sentence(BAG, () -> bags((x, bag) -> x.ofBag(bag, 0)));
        sentence("Throws `IllegalArgumentException` if what is not 0 to 10", () ->
            arguments(0, 10, (x, what) -> x.ofBag(0, what)));
    }

    private static void told(Bags x, long... row) {
        for (int what = 0; what <= 10; what++) {
            is(x.ofBag(0, what), row[what]);
        }
    }

    private static void count() {
        part("44: count");
        sentence("Returns its COUNT.", () -> {
            Bags x = with("-999x1 999x1000000");
            is(x.count(0, -999), 1);
            is(x.count(0, 999), FULL);
            is(x.count(0, -998), 0);
            is(x.count(0, 998), 0);
            is(x.count(1, 999), 0);
        });
        sentence(BAG, () -> bags((x, bag) -> x.count(bag, 4)));
        sentence(NUMBER, () -> numbers((x, told) -> x.count(0, told)));
    }

    private static void rank() {
        part("45: rank");
        sentence("Returns its RANK.", () -> {
            Bags x = with("-999x1 999x1000000");
            is(x.rank(0, -999), 0);
            is(x.rank(0, -998), 1);
            is(x.rank(0, 999), 1);
            is(x.rank(1, 999), 0);
            is(fullOf(FULL).rank(0, 41), LARGEST_SIZE);
            is(fullOf(FULL).rank(0, 40), 39 * FULL);
            is(fullOf(FULL).rank(0, 1), 0);
        });
        sentence(BAG, () -> bags((x, bag) -> x.rank(bag, 4)));
        sentence(NUMBER, () -> numbers((x, told) -> x.rank(0, told)));
    }

    private static void select() {
        part("46: select");
        sentence("Returns the SELECT of it.", () -> {
            Bags x = with("-999x2 999x1");
            is(x.select(0, 0), -999);
            is(x.select(0, 1), -999);
            is(x.select(0, 2), 999);
            is(with("7x1").select(0, 0), 7);
        });
        sentence("Throws `IndexOutOfBoundsException` if bag is not 0 to 3, or spot is no PLACE of the BAG", () -> {
            bags((x, bag) -> x.select(bag, 0));
            bounded(Thrown.INDEX, 0, 1000012, (x, spot) -> x.select(0, spot));
            Bags x = with("7x1");
            index(x, () -> x.select(0, -1), () -> x.select(0, 1), () -> x.select(1, 0), () -> x.select(1, -1));
        });
    }

    private static void within() {
        part("47: within");
        sentence("Returns that, of all numbers from from to to", () -> {
            Bags x = with("-999x1 0x5 999x1000000");
            long[][] told = {{-999, 999, 3, 1000006}, {-998, 998, 1, 5}, {-999, 998, 2, 6}, {-998, 999, 2, 1000005},
                {0, 0, 1, 5}, {1, 1, 0, 0}, {-1, 0, 1, 5}, {0, 1, 1, 5}, {-999, -999, 1, 1}, {999, 999, 1, FULL}};
            for (long[] row : told) {
                is(x.within(0, (int) row[0], (int) row[1], true), row[2]);
                is(x.within(0, (int) row[0], (int) row[1], false), row[3]);
            }
            is(x.within(1, -999, 999, true), 0);
            is(x.within(1, -999, 999, false), 0);
            is(fullOf(FULL).within(0, 1, 40, true), 40);
            is(fullOf(FULL).within(0, 1, 40, false), LARGEST_SIZE);
        });
        sentence("-9 (that is no LAPSE), if from is above to", () -> {
            Bags x = with("0x1 1x1");
            is(x.within(0, 1, 0, true), -9);
            is(x.within(0, 1, 0, false), -9);
            is(x.within(1, 999, -999, false), -9);
            is(x.books(0), 0);
        });
        sentence(BAG, () -> bags((x, bag) -> x.within(bag, 0, 0, true)));
        sentence("Throws `IllegalArgumentException` if from or to is not -999 to 999", () -> {
            numbers((x, told) -> x.within(0, told, 0, true));
            numbers((x, told) -> x.within(0, 0, told, false));
        });
    }

    private static void near() {
        part("48: near");
        sentence("0 the greatest MEMBER that is no more than it, 1 the least one that is no less, "
            + "2 the greatest one that is less, 3 the least one that is more", () -> {
            Bags x = with("-999x1 0x2 4x1 999x1");
            int[][] told = {{-1, -999, 0, -999, 0}, {0, 0, 0, -999, 4}, {1, 0, 4, 0, 4}, {4, 4, 4, 0, 999},
                {5, 4, 999, 4, 999}, {998, 4, 999, 4, 999}, {-998, -999, 0, -999, 0}};
            for (int[] row : told) {
                for (int what = 0; what <= 3; what++) {
                    is(x.near(0, row[0], what), row[what + 1]);
                }
            }
        });
        sentence("Returns that; NONE without one.", () -> {
            Bags x = with("-999x1 999x1", "0x1");
            int[][] ends = {{-999, -999, -999, NONE, 999}, {999, 999, 999, -999, NONE}};
            int[][] one = {{-1, NONE, 0, NONE, 0}, {0, 0, 0, NONE, NONE}, {1, 0, NONE, 0, NONE}};
            for (int what = 0; what <= 3; what++) {
                for (int[] row : ends) {
                    is(x.near(0, row[0], what), row[what + 1]);
                }
                for (int[] row : one) {
                    is(x.near(1, row[0], what), row[what + 1]);
                }
                is(x.near(2, 0, what), NONE);
                is(x.near(2, 999, what), NONE);
                is(x.near(2, -999, what), NONE);
            }
        });
        sentence(BAG, () -> bags((x, bag) -> x.near(bag, 0, 0)));
        sentence("Throws `IllegalArgumentException` if member is not -999 to 999, or what not 0 to 3", () -> {
            for (int what = 0; what <= 3; what++) {
                int asked = what;
                numbers((x, told) -> x.near(0, told, asked));
            }
            arguments(0, 3, (x, what) -> x.near(0, 0, what));
            arguments(0, 3, (x, what) -> new Bags().near(0, 0, what));
        });
    }

    private static void share() {
        part("49: share");
        sentence("0 how many copies it has, 1 the least number of these, 2 the greatest one (both NONE without copies), "
            + "3 of how many MEMBERS it has copies, 4 all its copies together as a sum", () -> {
            // Of 8 copies among 3: the places 0 and 1, 2 to 4, 5 to 7.
            Bags x = with("-3x2 0x5 4x1");
            long[][] thirds = {{2, -3, -3, 1, -6}, {3, 0, 0, 1, 0}, {3, 0, 4, 2, 4}};
            // Among 2 the first share ends within the copies of 0.
            long[][] halves = {{4, -3, 0, 2, -6}, {4, 0, 4, 2, 4}};
            for (int what = 0; what <= 4; what++) {
                for (int one = 0; one < 3; one++) {
                    is(x.share(0, 3, one, what), thirds[one][what]);
                }
                for (int one = 0; one < 2; one++) {
                    is(x.share(0, 2, one, what), halves[one][what]);
                }
                is(x.share(1, 20, 19, what), new long[] {0, NONE, NONE, 0, 0}[what]);
            }
            Bags full = new Bags();
            full.fill(0, -999, -960, 1, FULL);
            is(full.share(0, 1, 0, 0), LARGEST_SIZE);
            is(full.share(0, 1, 0, 3), 40);
            is(full.share(0, 1, 0, 4), -39180000000L);
            is(full.share(0, 20, 0, 4), -1997000000L);
        });
        sentence("Returns that.", () -> is(with("7x3").share(0, 1, 0, 4), 21));
        sentence(BAG, () -> bags((x, bag) -> x.share(bag, 3, 2, 0)));
        sentence("Throws `IllegalArgumentException` if many is not 1 to 20, one not 0 to many - 1, or what not 0 "
            + "to 4", () -> {
            arguments(1, 20, (x, many) -> x.share(0, many, 0, 0));
            int[] all = {1, 3, 20};
            for (int many : all) {
                arguments(0, many - 1, (x, one) -> x.share(0, many, one, 0));
                arguments(0, many - 1, (x, one) -> new Bags().share(0, many, one, 4));
            }
            arguments(0, 4, (x, what) -> x.share(0, 3, 2, what));
            arguments(0, 4, (x, what) -> new Bags().share(0, 20, 19, what));
        });
    }

    private static void shares() {
        part("50: shares");
        sentence("Returns SHARE by SHARE the least number of its copies (\"-\" without copies), with a blank between two "
            + "(of -2, 0 and 5 with one copy each, among 4: \"- -2 0 5\").", () -> {
            Bags x = with("-2x1 0x1 5x1");
            is(x.shares(0, 4), "- -2 0 5");
            is(x.shares(0, 3), "-2 0 5");
            is(x.shares(0, 2), "-2 0");
            is(x.shares(0, 1), "-2");
            is(x.shares(1, 1), "-");
            is(x.shares(1, 20), "- - - - - - - - - - - - - - - - - - - -");
            // Two shares may begin with copies of one member.
            is(with("7x5 8x1").shares(0, 4), "7 7 7 7");
            Bags full = new Bags();
            full.fill(0, -999, -960, 1, FULL);
            is(full.shares(0, 20), "-999 -997 -995 -993 -991 -989 -987 -985 -983 -981 -979 -977 -975 -973 -971 -969 -967 "
                + "-965 -963 -961");
        });
        sentence(BAG, () -> bags((x, bag) -> x.shares(bag, 1)));
        sentence("Throws `IllegalArgumentException` if many is not 1 to 20", () -> {
            arguments(1, 20, (x, many) -> x.shares(0, many));
            arguments(1, 20, (x, many) -> new Bags().shares(0, many));
        });
    }

    private static void comparing() {
        part("51: isIn");
        sentence("Returns whether the first one is IN the other one.", () -> {
            Bags x = with("1x2", "1x2", "1x3", "");
            boolean[][] in = {{true, true, true, false}, {true, true, true, false}, {false, false, true, false},
                {true, true, true, true}};
            for (int one = 0; one <= 3; one++) {
                for (int other = 0; other <= 3; other++) {
                    is(x.isIn(one, other), in[one][other]);
                }
            }
            // One number too many is enough, be it the least or the greatest.
            is(with("0x1 1x2", "1x2").isIn(0, 1), false);
            is(with("1x2 999x1", "1x2").isIn(0, 1), false);
        });
        sentence(TWO_BAGS, () -> twoBags((x, one, other) -> x.isIn(one, other)));
        part("52: isSame");
        sentence("Returns whether all COUNTS are alike in both.", () -> {
            Bags x = with("1x2 3x4", "1x2 3x4", "1x2 3x5", "");
            is(x.isSame(0, 1), true);
            is(x.isSame(0, 2), false);
            is(x.isSame(2, 0), false);
            is(x.isSame(0, 3), false);
            is(x.isSame(3, 0), false);
            for (int bag = 0; bag <= 3; bag++) {
                is(x.isSame(bag, bag), true);
            }
            x.clear(0);
            is(x.isSame(0, 3), true);
            // As many copies, but not of the same numbers.
            is(with("1x2", "2x2").isSame(0, 1), false);
        });
        sentence(TWO_BAGS, () -> twoBags((x, one, other) -> x.isSame(one, other)));
        part("53: distance");
        sentence("Returns their DISTANCE.", () -> {
            Bags x = with("1x2 3x4", "1x5 2x1");
            is(x.distance(0, 1), 8);
            is(x.distance(1, 0), 8);
            is(x.distance(0, 0), 0);
            is(x.distance(2, 3), 0);
            is(x.distance(0, 2), 6);
            is(x.distance(2, 0), 6);
            Bags full = fullOf(FULL);
            full.fill(1, 41, 80, 1, FULL);
            is(full.distance(0, 1), 2 * LARGEST_SIZE);
        });
        sentence(TWO_BAGS, () -> twoBags((x, one, other) -> x.distance(one, other)));
    }

    private static void would() {
        part("54: would");
        sentence("0 SUM, 1 JOIN, 2 MEET, 3 LESS, 4 APART", () -> {
            Bags x = with("1x5 2x1 3x2", "2x4 3x2 9x1");
            long[] sizes = {15, 12, 3, 5, 9};
            long[] kinds = {4, 4, 2, 1, 3};
            long[] alone = {8, 8, 0, 8, 8};
            for (int how = 0; how <= 4; how++) {
                is(x.would(0, 1, how, false), sizes[how]);
                is(x.would(0, 1, how, true), kinds[how]);
                is(x.would(0, 2, how, false), alone[how]);
                is(x.would(2, 3, how, false), 0);
                is(x.would(2, 3, how, true), 0);
            }
            is(x.would(1, 0, 3, false), 4);
            is(x.would(1, 0, 3, true), 2);
        });
        sentence("(as if no BAG were ever OVERFULL, both)", () -> {
            Bags x = fullOf(FULL);
            x.fill(1, 41, 80, 1, FULL);
            is(x.would(0, 1, 0, true), 80);
            is(x.would(0, 1, 1, true), 80);
            is(x.would(0, 1, 4, true), 80);
            is(x.would(0, 1, 0, false), 2 * LARGEST_SIZE);
            is(x.would(0, 0, 0, false), 2 * LARGEST_SIZE);
            is(x.would(0, 0, 0, true), 40);
        });
        sentence("Returns that.", () -> is(with("7x3").would(0, 0, 0, false), 6));
        sentence(TWO_BAGS, () -> twoBags((x, one, other) -> x.would(one, other, 0, true)));
        sentence("Throws `IllegalArgumentException` if how is not 0 to 4", () -> {
            arguments(0, 4, (x, how) -> x.would(0, 1, how, true));
            arguments(0, 4, (x, how) -> x.would(0, 1, how, false));
        });
    }

    private static void text() {
        part("55: text");
        sentence("Returns MEMBER by MEMBER the number, \"x\", and its COUNT, with a blank between two (\"-3x2 0x1\"; "
            + "\"\", if the BAG is empty).", () -> {
            Bags x = with("0x1 -3x2", "999x1000000 -999x1");
            is(x.text(0, false), "-3x2 0x1");
            is(x.text(1, false), "-999x1 999x1000000");
            is(x.text(2, false), "");
            is(x.text(2, true), "");
            is(with("5x1").text(0, true), "5x1");
        });
        sentence("whether from the GREATEST MEMBER on, otherwise from the LEAST", () -> {
            Bags x = fullOf(FULL);
            StringBuilder rising = new StringBuilder();
            StringBuilder falling = new StringBuilder();
            for (int member = 1; member <= 40; member++) {
                rising.append(member == 1 ? "" : " ").append(member).append("x1000000");
                falling.append(member == 1 ? "" : " ").append(41 - member).append("x1000000");
            }
            is(x.text(0, false), rising.toString());
            is(x.text(0, true), falling.toString());
        });
        sentence(BAG, () -> bags((x, bag) -> x.text(bag, true)));
    }

    private static void hasCount() {
        part("56: hasCount");
        sentence("Returns whether a MEMBER has just that COUNT.", () -> {
            Bags x = with("-3x2 0x1 4x1000000");
            is(x.hasCount(0, 1), true);
            is(x.hasCount(0, 2), true);
            is(x.hasCount(0, 3), false);
            is(x.hasCount(0, 999999), false);
            is(x.hasCount(0, FULL), true);
            // Its copies together are no COUNT, and an empty bag has no member.
            is(with("1x2 2x2").hasCount(0, 4), false);
            is(x.hasCount(1, 1), false);
        });
        sentence(BAG, () -> bags((x, bag) -> x.hasCount(bag, 1)));
        sentence("Throws `IllegalArgumentException` if count is not 1 to 1000000", () ->
            counts((x, told) -> x.hasCount(0, told)));
    }

    private static void books() {
        part("57: books");
        sentence("0 LAPSES, 1 how many knocks there were, 2 the MEMBER of LAST, 3 the COUNT of LAST", () -> {
            Bags x = with("-999x1000000");
            int[] first = {0, 0, NONE, 0};
            int[] then = {3, 2, -999, FULL};
            for (int what = 0; what <= 3; what++) {
                is(x.books(what), first[what]);
            }
            x.none();
            x.none();
            x.lens(0, 0, 1, 0);
            x.knock();
            x.knock();
            x.poll(0, true);
            for (int what = 0; what <= 3; what++) {
                is(x.books(what), then[what]);
            }
        });
        sentence("Returns that.", () -> is(new Bags().books(2), NONE));
        sentence("Throws `IllegalArgumentException` if what is not 0 to 3", () ->
            arguments(0, 3, (x, what) -> x.books(what)));
        part("58: knock");
        sentence("Knocks at the door; nobody opens.", () -> {
            Bags x = busy();
            String before = x.text(0, false) + x.text(1, false) + x.text(2, false) + x.text(3, false) + x.halves();
            x.knock();
            is(x.text(0, false) + x.text(1, false) + x.text(2, false) + x.text(3, false) + x.halves(), before);
            is(x.ofWalk(3), 1);
            is(x.books(0), 2);
        });
        sentence("Returns how many knocks there were, with this.", () -> {
            Bags x = new Bags();
            is(x.knock(), 1);
            is(x.knock(), 2);
            is(x.books(1), 2);
            is(x.books(1), 2);
            is(new Bags().knock(), 1);
        });
    }

    private static void isSound() {
        part("59: isSound");
        sentence("of each BAG, for each MEMBER x the SELECT of the RANK of x is x", () -> {
            soundEverywhere(new Bags());
            soundEverywhere(busy());
            Bags full = fullOf(FULL);
            full.fill(3, -999, -960, 1, FULL);
            soundEverywhere(full);
        });
        sentence("polled to the end (in thought), it tells rising MEMBERS and COUNTS that come to SIZE; it is not "
            + "OVERFULL", () -> {
            Bags x = fullOf(FULL);
            is(x.isSound(), true);
            int before = NONE;
            long copies = 0;
            for (int polled = x.poll(0, false); polled > 0; polled = x.poll(0, false)) {
                is(x.books(2) > before, true);
                before = x.books(2);
                copies += polled;
            }
            is(copies, LARGEST_SIZE);
            is(x.isSound(), true);
        });
        sentence("of each two BAGS JOIN and MEET have as many copies together as SUM, DISTANCE is the SIZE of JOIN less that "
            + "of MEET, and both are IN each other just if DISTANCE is 0", () -> {
            soundEverywhere(with("1x1 2x1", "1x1 2x1", "1x1", ""));
            soundEverywhere(with("1x1 2x1", "2x1 3x1", "1x2 2x2", "4x1"));
        });
        sentence("the MEDIAN is the LOWER MIDDLE of a BAG of just the VALUES of the WINDOW, and these are no more than "
            + "LENGTH", () -> {
            Bags x = new Bags();
            for (int i = 0; i < 40; i++) {
                x.window(i % 30 + 1);
                x.flow(i * 7 % 11 - 5);
                int median = x.ofWindow(2);
                soundEverywhere(x);
                Bags like = flowed(30);
                for (int value = -5; value <= 5; value++) {
                    for (int copy = 0; copy < x.holds(value); copy++) {
                        like.put(0, value, 1);
                    }
                }
                is(like.ofBag(0, 9), median);
                is(x.ofWindow(0) <= x.ofWindow(1), true);
            }
        });
        sentence("AT of a WALK is NONE or a MEMBER of its BAG", () -> {
            Bags x = with("1x1 2x1");
            x.walk(0);
            is(x.isSound(), true);
            x.step();
            is(x.isSound(), true);
            x.stepSet(FULL);
            is(x.isSound(), true);
            x.take(0, 1, FULL);
            is(x.isSound(), true);
            is(x.ofWalk(1), NONE);
        });
        sentence("Returns whether all of this is so", () -> {
            // Asked twice, and behind calls that threw.
            Bags x = busy();
            index(x, () -> x.put(4, 0, 1));
            state(x, () -> x.mend(3, 1, 1), () -> x.harvest(3));
            is(x.isSound(), true);
            is(x.isSound(), true);
        });
    }

    /** What isSound() tells, and that it is told of what the other methods answer. */
    private static void soundEverywhere(Bags x) {
        is(x.isSound(), true);
        for (int bag = 0; bag <= 3; bag++) {
            long size = x.ofBag(bag, 0);
            long[] places = {0, size / 2, size - 1};
            for (int i = 0; size > 0 && i < places.length; i++) {
                int member = x.select(bag, (int) places[i]);
                long rank = x.rank(bag, member);
                is(rank <= places[i] && rank > places[i] - x.count(bag, member), true);
                is(x.select(bag, (int) rank), member);
            }
            for (int other = bag + 1; other <= 3; other++) {
                long join = x.would(bag, other, 1, false);
                long meet = x.would(bag, other, 2, false);
                is(join + meet, x.would(bag, other, 0, false));
                is(x.distance(bag, other), join - meet);
                is(x.isIn(bag, other) && x.isIn(other, bag), x.distance(bag, other) == 0);
            }
        }
    }

    private static void digest() {
        part("60: digest");
        sentence("A number d starts with 58511; then d becomes d * 31 + v", () -> {
            Bags x = new Bags();
            long[] bag = {0, 0, 0, NONE, NONE, 0, 0, 0, NONE, NONE, NONE, -1, 0, 0, NONE, NONE,
                0, NONE, NONE, 0, 0, 0, NONE, NONE, 0, 0, 0, NONE, NONE, 0, 0, 0, 7};
            long d = 58511;
            for (int i = 0; i < 4; i++) {
                d = mixed(d, bag);
            }
            for (int pair = 0; pair < 6; pair++) {
                d = mixed(d, 0, 0, 0, 0, 0, 0, 1);
            }
            d = mixed(d, -1, NONE, 0, 0, 0);
            d = mixed(d, 0, 9, NONE, NONE, 0, 0, NONE, NONE, 0, 0, 1);
            is(x.digest(), mixed(d, 0, 0, NONE, 0, 1));
        });
        sentence("which wraps around as a 64-bit integer", () -> {
            // Each knock counts 31 ^ 3 in the end, whatever was carried off on the way.
            Bags x = busy();
            long before = x.digest();
            x.knock();
            is(x.digest() - before, 29791);
            java.math.BigInteger whole = java.math.BigInteger.valueOf(58511);
            for (long v : answers(x)) {
                whole = whole.multiply(java.math.BigInteger.valueOf(31)).add(java.math.BigInteger.valueOf(v));
            }
            is(whole.bitLength() > 64, true);
            is(x.digest(), whole.longValue());
        });
        sentence("for each v in this order", () -> {
            Bags[] objects = {new Bags(), busy(), fullOf(FULL), flowed(2, 5, -6, 7), with("1x2", "1x3", "1x4 2x2", "9x1")};
            for (Bags x : objects) {
                long d = 58511;
                for (long v : answers(x)) {
                    d = d * 31 + v;
                }
                is(x.digest(), d);
            }
        });
        sentence("Computes a checksum.", () -> {
            // Two objects with the same calls behind them have the same one, and asking for it changes nothing.
            is(busy().digest(), busy().digest());
            Bags x = busy();
            long first = x.digest();
            is(x.digest(), first);
        });
        sentence("Returns d.", () -> is(new Bags().digest() == 58511, false));
    }

    private static long mixed(long start, long... row) {
        long d = start;
        for (long v : row) {
            d = d * 31 + v;
        }
        return d;
    }

    /** All that the digest is made of, in its order. */
    private static java.util.List<Long> answers(Bags x) {
        java.util.List<Long> all = new java.util.ArrayList<>();
        for (int bag = 0; bag <= 3; bag++) {
            for (int what = 0; what <= 10; what++) {
                all.add(x.ofBag(bag, what));
            }
            for (int what = 0; what <= 4; what++) {
                all.add(x.ofLens(bag, what));
            }
            for (int one = 0; one <= 2; one++) {
                for (int what = 0; what <= 4; what++) {
                    all.add(x.share(bag, 3, one, what));
                }
            }
            all.add((long) x.text(bag, false).length());
            all.add((long) x.shares(bag, 4).length());
        }
        for (int one = 0; one <= 3; one++) {
            for (int other = one + 1; other <= 3; other++) {
                all.add(x.distance(one, other));
                for (int how = 0; how <= 4; how++) {
                    all.add(x.would(one, other, how, false));
                }
                all.add(x.isIn(one, other) ? 1L : 0L);
            }
        }
        for (int what = 0; what <= 4; what++) {
            all.add((long) x.ofWalk(what));
        }
        for (int what = 0; what <= 9; what++) {
            all.add((long) x.ofWindow(what));
        }
        all.add((long) x.halves().length());
        for (int what = 0; what <= 3; what++) {
            all.add((long) x.books(what));
        }
        all.add(x.isSound() ? 1L : 0L);
        return all;
    }

    public static void main(String[] arguments) {
        ofBag();
        count();
        rank();
        select();
        within();
        near();
        share();
        shares();
        comparing();
        would();
        text();
        hasCount();
        books();
        isSound();
        digest();
        finish("AskedTest", 43, 60);
    }
}
