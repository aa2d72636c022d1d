/** A test for each promise of the document: ordinary inputs, the edges that it names, and wrong inputs. */
public final class PromiseTest extends Checks {
    private static int promise = 0;

    private static void newObject() {
        Bags x = new Bags();
        for (int bag = 0; bag < 4; bag++) {
            is(x.text(bag, false), "");
            is(x.ofBag(bag, 0), 0);
            is(x.ofLens(bag, 0), -1);
        }
        is(x.halves(), "|");
        is(x.ofWindow(0), 0);
        is(x.ofWindow(1), 9);
        is(x.ofWindow(9), 0);
        is(x.ofWalk(0), -1);
        is(x.books(0), 0);
        is(x.books(1), 0);
        is(x.books(2), NONE);
        is(x.books(3), 0);
        x.put(0, 1, 1);
        is(new Bags().text(0, false), "");
    }

    private static void put() {
        Bags x = new Bags();
        is(x.put(0, 3, 2), 2);
        is(x.put(0, 3, 5), 7);
        is(x.put(3, 3, 1), 1);
        is(x.put(0, -999, 1), 1);
        is(x.put(0, 999, FULL), FULL);
        is(x.text(0, false), "-999x1 3x7 999x1000000");
        index(x, () -> x.put(-1, 0, 1), () -> x.put(4, 0, 1), () -> x.put(4, 1000, 0),
            () -> x.put(Integer.MIN_VALUE, 0, 1), () -> x.put(Integer.MAX_VALUE, 0, 1));
        argument(x, () -> x.put(0, 1000, 1), () -> x.put(0, -1000, 1), () -> x.put(0, 0, 0), () -> x.put(0, 0, -1),
            () -> x.put(0, 0, FULL + 1), () -> x.put(0, 999, FULL + 1), () -> x.put(0, 0, Integer.MAX_VALUE));
        state(x, () -> x.put(0, 999, 1), () -> x.put(0, 3, FULL - 6), () -> x.put(0, 999, FULL));
        is(x.put(0, 3, FULL - 7), FULL);
        x.clear(0);
        x.fill(0, 1, 40, 1, 1);
        state(x, () -> x.put(0, 0, 1), () -> x.put(0, 41, 1));
        is(x.put(0, 40, 1), 2);
        x.take(0, 20, 1);
        is(x.put(0, 41, 1), 1);
    }

    private static void take() {
        Bags x = with("3x5 4x1");
        is(x.take(0, 3, 2), 2);
        is(x.take(0, 3, 4), 3);
        is(x.take(0, 3, 1), 0);
        is(x.take(0, 4, FULL), 1);
        is(x.take(0, 4, 1), 0);
        is(x.text(0, false), "");
        Bags y = with("3x5");
        is(y.take(0, 3, 5), 5);
        is(y.ofBag(0, 1), 0);
        index(x, () -> x.take(-1, 0, 1), () -> x.take(4, 1000, 0));
        argument(x, () -> x.take(0, 1000, 1), () -> x.take(0, -1000, 1), () -> x.take(0, 0, 0),
            () -> x.take(0, 0, FULL + 1));
    }

    private static void tell() {
        Bags x = with("3x5");
        is(x.tell(0, 3, 9), 5);
        is(x.tell(0, 2, 1), 0);
        is(x.tell(0, 3, 0), 9);
        is(x.tell(0, 3, 0), 0);
        is(x.tell(0, 2, FULL), 1);
        is(x.text(0, false), "2x1000000");
        index(x, () -> x.tell(-1, 0, 1), () -> x.tell(4, 1000, -1));
        argument(x, () -> x.tell(0, 1000, 1), () -> x.tell(0, -1000, 1), () -> x.tell(0, 0, -1),
            () -> x.tell(0, 0, FULL + 1));
        x.fill(1, 1, 40, 1, 1);
        state(x, () -> x.tell(1, 0, 1));
        is(x.tell(1, 0, 0), 0);
        is(x.tell(1, 7, 2), 1);
        is(x.tell(1, 7, 0), 2);
        is(x.tell(1, 0, 1), 0);
    }

    private static void place() {
        Bags x = with("3x5");
        is(x.place(0, 3, 9, true), 5);
        is(x.count(0, 3), 5);
        is(x.place(0, 3, 9, false), 5);
        is(x.count(0, 3), 9);
        is(x.place(0, 4, 2, false), 0);
        is(x.count(0, 4), 0);
        is(x.place(0, 4, 2, true), 0);
        is(x.count(0, 4), 2);
        index(x, () -> x.place(-1, 0, 1, true), () -> x.place(4, 1000, 0, true));
        argument(x, () -> x.place(0, 1000, 1, true), () -> x.place(0, -1000, 1, false), () -> x.place(0, 0, 0, true),
            () -> x.place(0, 0, FULL + 1, false));
        x.fill(1, 1, 40, 1, 1);
        state(x, () -> x.place(1, 0, 1, true));
        is(x.place(1, 0, 1, false), 0);
        is(x.place(1, 1, 1, true), 1);
        is(x.place(1, 1, FULL, false), 1);
        is(x.ofBag(1, 1), 40);
    }

    private static void swap() {
        Bags x = with("3x5");
        is(x.swap(0, 3, 4, 9), false);
        is(x.count(0, 3), 5);
        is(x.swap(0, 3, 5, FULL), true);
        is(x.count(0, 3), FULL);
        is(x.swap(0, 3, FULL, 1), true);
        is(x.swap(0, 4, 1, 1), false);
        is(x.text(0, false), "3x1");
        index(x, () -> x.swap(-1, 3, 1, 1), () -> x.swap(4, 1000, 0, 0));
        argument(x, () -> x.swap(0, 1000, 1, 1), () -> x.swap(0, -1000, 1, 1), () -> x.swap(0, 3, 0, 1),
            () -> x.swap(0, 3, FULL + 1, 1), () -> x.swap(0, 3, 1, 0), () -> x.swap(0, 3, 1, FULL + 1),
            () -> x.swap(0, 4, 0, 1));
    }

    private static void poll() {
        Bags x = with("-3x5 0x2 8x1");
        is(x.poll(0, false), 5);
        is(x.books(2), -3);
        is(x.books(3), 5);
        is(x.poll(0, true), 1);
        is(x.books(2), 8);
        is(x.books(3), 1);
        is(x.text(0, false), "0x2");
        is(x.poll(0, true), 2);
        is(x.poll(0, true), 0);
        is(x.poll(0, false), 0);
        is(x.books(2), 0);
        is(x.books(3), 2);
        index(x, () -> x.poll(-1, true), () -> x.poll(4, false));
    }

    private static void pick() {
        Bags x = with("-3x2 8x1");
        is(x.pick(0, false), -3);
        is(x.text(0, false), "-3x1 8x1");
        is(x.pick(0, true), 8);
        is(x.text(0, false), "-3x1");
        is(x.pick(0, true), -3);
        is(x.pick(0, true), NONE);
        is(x.pick(0, false), NONE);
        is(x.books(2), NONE);
        index(x, () -> x.pick(-1, true), () -> x.pick(4, false));
    }

    private static void clear() {
        Bags x = with("-3x2 8x5", "1x1");
        is(x.clear(0), 7);
        is(x.text(0, false), "");
        is(x.text(1, false), "1x1");
        is(x.clear(0), 0);
        x.fill(2, 1, 40, 1, FULL);
        is(x.clear(2), 40000000);
        index(x, () -> x.clear(-1), () -> x.clear(4));
    }

    private static void fill() {
        Bags x = new Bags();
        is(x.fill(0, -4, 3, 3, 2), 3);
        is(x.text(0, false), "-4x2 -1x2 2x2");
        is(x.fill(0, -4, 2, 3, 1), 3);
        is(x.text(0, false), "-4x3 -1x3 2x3");
        is(x.fill(0, 0, 0, 999, 1), 1);
        is(x.fill(0, 5, 4, 1, 1), 0);
        is(x.fill(0, 999, -999, 1, FULL), 0);
        is(x.text(0, false), "-4x3 -1x3 0x1 2x3");
        is(x.fill(1, -999, 999, 999, FULL), 3);
        is(x.text(1, true), "999x1000000 0x1000000 -999x1000000");
        is(x.fill(2, 1, 40, 1, 1), 40);
        is(x.fill(2, 1, 40, 1, FULL - 1), 40);
        index(x, () -> x.fill(-1, 0, 1, 1, 1), () -> x.fill(4, 1000, 1000, 0, 0));
        argument(x, () -> x.fill(0, -1000, 1, 1, 1), () -> x.fill(0, 1000, 1, 1, 1), () -> x.fill(0, 0, 1000, 1, 1),
            () -> x.fill(0, 0, -1000, 1, 1), () -> x.fill(0, 0, 1, 0, 1), () -> x.fill(0, 0, 1, -1, 1),
            () -> x.fill(0, 0, 1, 1000, 1), () -> x.fill(0, 0, 1, 1, 0), () -> x.fill(0, 0, 1, 1, FULL + 1),
            () -> x.fill(0, -999, 999, 1, 0));
        state(x, () -> x.fill(3, 1, 41, 1, 1), () -> x.fill(3, -999, 999, 1, 1), () -> x.fill(0, 10, 46, 1, 1),
            () -> x.fill(1, -5, 0, 5, 1), () -> x.fill(2, 40, 41, 1, 1), () -> x.fill(2, 41, 41, 1, 1));
        is(x.fill(0, 10, 45, 1, 1), 36);
    }

    private static void copy() {
        Bags x = with("-3x2 8x5", "1x1 2x2");
        x.lens(0, 1, 0, 0);
        x.lens(1, 2, 1, 1);
        is(x.copy(0, 1), 7);
        is(x.text(1, false), "-3x2 8x5");
        is(x.ofLens(1, 0), 2);
        is(x.ofLens(1, 1), 1);
        x.put(0, 0, 1);
        is(x.text(1, false), "-3x2 8x5");
        is(x.copy(0, 0), 8);
        is(x.text(0, false), "-3x2 0x1 8x5");
        is(x.copy(2, 0), 0);
        is(x.text(0, false), "");
        x.fill(3, 1, 40, 1, FULL);
        is(x.copy(3, 0), 40000000);
        index(x, () -> x.copy(-1, 0), () -> x.copy(0, -1), () -> x.copy(4, 0), () -> x.copy(0, 4));
    }

    private static void combine() {
        Bags x = with("1x5 2x1 3x2", "2x4 3x2 9x1");
        is(x.combine(0, 1, 2, 0), 15);
        is(x.text(2, false), "1x5 2x5 3x4 9x1");
        is(x.combine(0, 1, 2, 1), 12);
        is(x.text(2, false), "1x5 2x4 3x2 9x1");
        is(x.combine(0, 1, 2, 2), 3);
        is(x.text(2, false), "2x1 3x2");
        is(x.combine(0, 1, 2, 3), 5);
        is(x.text(2, false), "1x5");
        is(x.combine(1, 0, 2, 3), 4);
        is(x.text(2, false), "2x3 9x1");
        is(x.combine(0, 1, 2, 4), 9);
        is(x.text(2, false), "1x5 2x3 9x1");
        is(x.text(0, false), "1x5 2x1 3x2");
        is(x.text(1, false), "2x4 3x2 9x1");
        is(x.combine(0, 1, 1, 0), 15);
        is(x.text(1, false), "1x5 2x5 3x4 9x1");
        is(x.combine(0, 0, 0, 0), 16);
        is(x.text(0, false), "1x10 2x2 3x4");
        is(x.combine(0, 0, 0, 2), 16);
        is(x.combine(0, 0, 0, 4), 0);
        Bags y = new Bags();
        y.fill(0, 1, 40, 1, 1);
        y.fill(1, 1, 41, 2, FULL);
        index(y, () -> y.combine(-1, 0, 1, 0), () -> y.combine(0, 4, 1, 0), () -> y.combine(0, 1, 4, 9),
            () -> y.combine(0, 1, -1, 0));
        argument(y, () -> y.combine(0, 1, 2, -1), () -> y.combine(0, 1, 2, 5));
        state(y, () -> y.combine(0, 1, 2, 0), () -> y.combine(0, 1, 2, 1), () -> y.combine(0, 1, 0, 4),
            () -> y.combine(1, 1, 2, 0));
        is(y.combine(0, 1, 2, 2), 20);
        is(y.combine(0, 1, 2, 3), 20);
        y.take(1, 41, FULL);
        is(y.combine(0, 1, 2, 4), 20L * (FULL - 1) + 20);
        is(y.combine(0, 1, 2, 1), 20L * FULL + 20);
        state(y, () -> y.combine(0, 1, 2, 0));
    }

    private static void sift() {
        Bags x = with("1x5 2x1 3x2", "2x4 3x2 9x1");
        x.copy(0, 2);
        is(x.sift(0, 1, true), 1);
        is(x.text(0, false), "2x1 3x2");
        is(x.sift(2, 1, false), 2);
        is(x.text(2, false), "1x5");
        is(x.text(1, false), "2x4 3x2 9x1");
        x.put(3, 9, 1);
        is(x.sift(3, 1, true), 0);
        is(x.sift(3, 1, false), 1);
        is(x.sift(1, 3, false), 0);
        is(x.sift(1, 3, true), 3);
        is(x.text(1, false), "");
        index(x, () -> x.sift(-1, 0, true), () -> x.sift(0, 4, true), () -> x.sift(4, 4, true));
        argument(x, () -> x.sift(0, 0, true), () -> x.sift(3, 3, false));
    }

    private static void purge() {
        Bags x = with("1x5 2x1 3x5 4x6");
        is(x.purge(0, 5), 2);
        is(x.text(0, false), "2x1 4x6");
        is(x.purge(0, 5), 0);
        is(x.purge(0, 1), 1);
        x.put(1, 0, FULL);
        is(x.purge(1, FULL), 1);
        index(x, () -> x.purge(-1, 1), () -> x.purge(4, 0));
        argument(x, () -> x.purge(0, 0), () -> x.purge(0, FULL + 1), () -> x.purge(0, -1));
    }

    private static void thin() {
        Bags x = with("1x5 2x1 3x2 4x1000000");
        is(x.thin(0, 2), 1);
        is(x.text(0, false), "1x2 3x1 4x500000");
        is(x.thin(0, 1000), 2);
        is(x.text(0, false), "4x500");
        is(x.thin(0, 1000), 1);
        is(x.thin(0, 2), 0);
        index(x, () -> x.thin(-1, 2), () -> x.thin(4, 1));
        argument(x, () -> x.thin(0, 1), () -> x.thin(0, 0), () -> x.thin(0, 1001), () -> x.thin(0, -2));
    }

    private static void grow() {
        Bags x = with("1x5 2x1", "7x1000 8x999", "7x1000 8x1001");
        is(x.grow(0, 2), 12);
        is(x.text(0, false), "1x10 2x2");
        is(x.grow(1, 1000), 1999000);
        is(x.text(1, false), "7x1000000 8x999000");
        is(x.grow(3, 1000), 0);
        index(x, () -> x.grow(-1, 2), () -> x.grow(4, 1));
        argument(x, () -> x.grow(0, 1), () -> x.grow(0, 1001), () -> x.grow(0, -1));
        state(x, () -> x.grow(2, 1000), () -> x.grow(1, 2), () -> x.grow(1, 1000));
    }

    private static void shift() {
        Bags x = with("-5x1 2x3");
        is(x.shift(0, 4), -1);
        is(x.text(0, false), "-1x1 6x3");
        is(x.shift(0, -4), -5);
        is(x.shift(0, 0), -5);
        is(x.text(0, false), "-5x1 2x3");
        is(x.shift(0, 997), 992);
        is(x.text(0, false), "992x1 999x3");
        state(x, () -> x.shift(0, 1), () -> x.shift(0, 999));
        is(x.shift(0, -999), -7);
        is(x.shift(0, -992), -999);
        state(x, () -> x.shift(0, -1), () -> x.shift(0, -999));
        x.put(2, 999, 1);
        state(x, () -> x.shift(2, 1));
        is(x.shift(1, 999), NONE);
        is(x.shift(1, -999), NONE);
        index(x, () -> x.shift(-1, 0), () -> x.shift(4, 1000));
        argument(x, () -> x.shift(0, 1000), () -> x.shift(0, -1000), () -> x.shift(1, 1000),
            () -> x.shift(0, Integer.MAX_VALUE));
    }

    private static void turn() {
        Bags x = with("-5x1 2x3 7x2", "-999x1 999x2");
        is(x.turn(0), -7);
        is(x.text(0, false), "-7x2 -2x3 5x1");
        is(x.turn(1), -999);
        is(x.text(1, false), "-999x2 999x1");
        is(x.turn(2), NONE);
        index(x, () -> x.turn(-1), () -> x.turn(4));
    }

    private static void mend() {
        Bags x = with("1x5 2x1 4x2", "2x4 3x2 4x2");
        is(x.mend(0, 1, 3), 3);
        is(x.text(0, false), "1x2 2x1 4x2");
        is(x.mend(0, 1, 4), 4);
        is(x.text(0, false), "2x3 4x2");
        is(x.mend(0, 1, FULL), 3);
        is(x.text(0, false), "2x4 3x2 4x2");
        is(x.mend(0, 1, 1), 0);
        is(x.mend(0, 0, 7), 0);
        is(x.text(1, false), "2x4 3x2 4x2");
        index(x, () -> x.mend(-1, 0, 1), () -> x.mend(0, 4, 0));
        argument(x, () -> x.mend(0, 1, 0), () -> x.mend(0, 1, FULL + 1), () -> x.mend(0, 0, -1));
        Bags y = new Bags();
        y.fill(0, 1, 40, 1, 1);
        y.fill(1, 0, 41, 41, 1);
        // The first change makes it 41 kinds, the second 40 again: only what stands behind both counts.
        state(y, () -> y.mend(0, 1, 1));
        is(y.mend(0, 1, 2), 2);
        is(y.count(0, 0), 1);
        is(y.count(0, 1), 0);
        is(y.ofBag(0, 1), 40);
        y.put(2, -1, FULL);
        state(y, () -> y.mend(0, 2, FULL));
        is(y.mend(2, 0, FULL), FULL);
        is(y.text(2, false), "");
        is(y.mend(2, 0, FULL), 40);
        is(y.isSame(0, 2), true);
    }

    private static void lens() {
        Bags x = with("-5x1 2x3 7x2");
        is(x.lens(0, 0, -5, 7), 2);
        is(x.lens(0, 1, 999, 2), 2);
        is(x.lens(0, 2, 2, -999), 1);
        is(x.lens(0, 0, 8, 7), -9);
        is(x.books(0), 1);
        is(x.ofLens(0, 0), 2);
        is(x.lens(0, 0, 2, 2), 0);
        is(x.books(0), 1);
        is(x.ofLens(0, 0), 0);
        is(x.lens(0, 2, 999, 0), 0);
        is(x.lens(0, 1, 0, 999), 3);
        is(x.lens(0, 1, 0, -999), 0);
        is(x.lens(0, 2, -999, 0), 3);
        Bags edges = with("-999x1 0x1 999x1");
        is(edges.lens(0, 1, 5, -999), 1);
        is(edges.ofLens(0, 4), -999);
        is(edges.lens(0, 2, 998, 5), 1);
        is(edges.ofLens(0, 3), 999);
        is(edges.lens(0, 2, 999, 5), 0);
        is(edges.lens(0, 2, -999, 5), 2);
        is(edges.lens(0, 0, -999, 999), 2);
        is(edges.ofLens(0, 3), -999);
        is(edges.ofLens(0, 4), 0);
        is(x.ofLens(1, 0), -1);
        index(x, () -> x.lens(-1, 0, 0, 0), () -> x.lens(4, 3, 0, 0));
        argument(x, () -> x.lens(0, -1, 0, 0), () -> x.lens(0, 3, 0, 0), () -> x.lens(0, 0, -1000, 0),
            () -> x.lens(0, 0, 1000, 0), () -> x.lens(0, 0, 0, -1000), () -> x.lens(0, 0, 0, 1000),
            () -> x.lens(0, 1, 1000, 0), () -> x.lens(0, 2, 0, 1000));
        keepsWalk(x, () -> x.lens(0, 0, 0, 1));
        x.put(0, 0, 4);
        is(x.ofLens(0, 2), 4);
        x.clear(0);
        is(x.ofLens(0, 0), 0);
    }

    private static void lensPut() {
        Bags x = with("2x3");
        state(x, () -> x.lensPut(0, 2, 1));
        x.lens(0, 0, 0, 5);
        is(x.lensPut(0, 2, 1), 4);
        is(x.lensPut(0, 0, 2), 2);
        is(x.lensPut(0, 5, 2), -9);
        is(x.lensPut(0, -1, 2), -9);
        is(x.books(0), 2);
        is(x.text(0, false), "0x2 2x4");
        index(x, () -> x.lensPut(-1, 0, 1), () -> x.lensPut(4, 1000, 1));
        argument(x, () -> x.lensPut(0, 1000, 1), () -> x.lensPut(0, -1000, 1), () -> x.lensPut(0, 0, 0),
            () -> x.lensPut(0, 0, FULL + 1), () -> x.lensPut(1, 1000, 1));
        state(x, () -> x.lensPut(0, 0, FULL), () -> x.lensPut(1, 0, 1));
        x.fill(0, 100, 137, 1, 1);
        state(x, () -> x.lensPut(0, 1, 1));
        is(x.lensPut(0, 5, 1), -9);
        is(x.lensPut(0, 0, FULL - 2), FULL);
        x.lens(0, 1, 0, -5);
        is(x.lensPut(0, 0, FULL), -9);
        is(x.books(0), 4);
        Bags y = with("1x1");
        y.lens(0, 0, 1, 2);
        endsWalk(y, () -> y.lensPut(0, 1, 1));
        endsWalk(y, () -> y.lensPut(0, 2, 1));
    }

    private static void lensTake() {
        Bags x = with("2x3 5x7");
        state(x, () -> x.lensTake(0, 2));
        x.lens(0, 0, 0, 5);
        is(x.lensTake(0, 5), 0);
        is(x.lensTake(0, 3), 0);
        is(x.lensTake(0, 2), 3);
        is(x.lensTake(0, 2), 0);
        is(x.text(0, false), "5x7");
        is(x.books(0), 0);
        is(x.books(2), NONE);
        index(x, () -> x.lensTake(-1, 0), () -> x.lensTake(4, 1000));
        argument(x, () -> x.lensTake(0, 1000), () -> x.lensTake(0, -1000), () -> x.lensTake(1, 1000));
        endsWalk(x, () -> x.lensTake(0, 999));
    }

    private static void lensPoll() {
        Bags x = with("2x3 5x7 6x1");
        state(x, () -> x.lensPoll(0));
        x.lens(0, 2, 2, 0);
        is(x.lensPoll(0), 7);
        is(x.books(2), 5);
        is(x.books(3), 7);
        is(x.lensPoll(0), 1);
        is(x.lensPoll(0), 0);
        is(x.books(2), 6);
        is(x.books(3), 1);
        is(x.text(0, false), "2x3");
        index(x, () -> x.lensPoll(-1), () -> x.lensPoll(4));
        endsWalk(x, () -> x.lensPoll(0));
    }

    private static void lensClear() {
        Bags x = with("1x1 2x3 5x7 6x1");
        state(x, () -> x.lensClear(0));
        x.lens(0, 0, 2, 6);
        is(x.lensClear(0), 10);
        is(x.text(0, false), "1x1 6x1");
        is(x.copy(0, 3), 2);
        is(x.grow(3, 2), 4);
        is(x.lensClear(0), 0);
        is(x.text(0, false), "1x1 6x1");
        is(x.ofLens(0, 0), 0);
        index(x, () -> x.lensClear(-1), () -> x.lensClear(4));
        endsWalk(x, () -> x.lensClear(0));
        x.fill(1, 1, 40, 1, FULL);
        x.lens(1, 1, 0, 999);
        is(x.lensClear(1), 40000000);
    }

    private static void ofLens() {
        Bags x = with("1x1 2x3 5x7 6x1");
        is(x.ofLens(0, 0), -1);
        is(x.ofLens(0, 1), 0);
        is(x.ofLens(0, 2), 0);
        is(x.ofLens(0, 3), NONE);
        is(x.ofLens(0, 4), NONE);
        x.lens(0, 1, 0, 5);
        is(x.ofLens(0, 0), 1);
        is(x.ofLens(0, 1), 3);
        is(x.ofLens(0, 2), 11);
        is(x.ofLens(0, 3), 1);
        is(x.ofLens(0, 4), 5);
        x.lens(0, 0, 3, 5);
        is(x.ofLens(0, 1), 0);
        is(x.ofLens(0, 2), 0);
        is(x.ofLens(0, 3), NONE);
        is(x.ofLens(0, 4), NONE);
        x.put(0, 3, 2);
        is(x.ofLens(0, 3), 3);
        is(x.ofLens(0, 4), 3);
        index(x, () -> x.ofLens(-1, 0), () -> x.ofLens(4, 5));
        argument(x, () -> x.ofLens(0, -1), () -> x.ofLens(0, 5), () -> x.ofLens(1, 5));
    }

    private static void lensCount() {
        Bags x = with("1x1 2x3 5x7");
        is(x.lensCount(0, 2), 0);
        x.lens(0, 2, 1, 0);
        is(x.lensCount(0, 1), 0);
        is(x.lensCount(0, 2), 3);
        is(x.lensCount(0, 5), 7);
        is(x.lensCount(0, 3), 0);
        is(x.books(0), 0);
        index(x, () -> x.lensCount(-1, 0), () -> x.lensCount(4, 1000));
        argument(x, () -> x.lensCount(0, 1000), () -> x.lensCount(0, -1000), () -> x.lensCount(1, 1000));
    }

    private static void walk() {
        Bags x = with("1x1 2x3 5x7");
        is(x.walk(0), 3);
        is(x.ofWalk(0), 0);
        is(x.ofWalk(1), NONE);
        x.step();
        index(x, () -> x.walk(-1), () -> x.walk(4));
        is(x.ofWalk(3), 1);
        is(x.walk(0), 3);
        is(x.ofWalk(3), 0);
        x.step();
        is(x.walk(3), 0);
        is(x.ofWalk(0), 3);
        is(x.ofWalk(4), 0);
    }

    private static void step() {
        Bags x = with("1x1 2x3 5x7");
        state(x, () -> x.step());
        x.walk(0);
        is(x.step(), 1);
        is(x.step(), 2);
        is(x.step(), 5);
        is(x.step(), NONE);
        is(x.step(), NONE);
        is(x.ofWalk(1), 5);
        is(x.ofWalk(3), 3);
        x.walk(1);
        is(x.step(), NONE);
        is(x.ofWalk(0), 1);
        is(x.ofWalk(3), 0);
        x.put(1, 1, 1);
        state(x, () -> x.step());
    }

    private static void stepSet() {
        Bags x = with("1x1 2x3 5x7");
        state(x, () -> x.stepSet(1));
        x.walk(0);
        state(x, () -> x.stepSet(1), () -> x.stepSet(FULL));
        argument(x, () -> x.stepSet(0), () -> x.stepSet(FULL + 1), () -> x.stepSet(-1));
        x.step();
        is(x.stepSet(FULL), 1);
        is(x.stepSet(4), FULL);
        argument(x, () -> x.stepSet(0), () -> x.stepSet(FULL + 1));
        is(x.step(), 2);
        is(x.stepSet(8), 3);
        x.step();
        x.step();
        is(x.stepSet(9), 7);
        is(x.ofWalk(3), 3);
        is(x.text(0, false), "1x4 2x8 5x9");
    }

    private static void ofWalk() {
        Bags x = with("1x1", "2x3 5x7");
        is(x.ofWalk(0), -1);
        is(x.ofWalk(1), NONE);
        is(x.ofWalk(2), 0);
        is(x.ofWalk(3), 0);
        is(x.ofWalk(4), 0);
        x.walk(1);
        is(x.ofWalk(0), 1);
        is(x.ofWalk(1), NONE);
        is(x.ofWalk(2), 0);
        is(x.ofWalk(3), 0);
        is(x.ofWalk(4), 1);
        x.step();
        is(x.ofWalk(1), 2);
        is(x.ofWalk(2), 3);
        is(x.ofWalk(3), 1);
        is(x.ofWalk(4), 1);
        x.step();
        is(x.ofWalk(2), 7);
        is(x.ofWalk(4), 0);
        argument(x, () -> x.ofWalk(-1), () -> x.ofWalk(5));
        allThatEndsAWalk();
        allThatKeepsAWalk();
    }

    /** By changing its bag or not: each of these tells a result. */
    private static void allThatEndsAWalk() {
        Bags x = with("1x4 2x3", "7x1", "1x1");
        x.lens(0, 1, 0, 3);
        endsWalk(x, () -> x.put(0, 1, 1));
        endsWalk(x, () -> x.take(0, 9, 1));
        endsWalk(x, () -> x.tell(0, 9, 0));
        endsWalk(x, () -> x.place(0, 1, 1, true));
        endsWalk(x, () -> x.swap(0, 1, 999, 1));
        endsWalk(x, () -> x.fill(0, 2, 1, 1, 1));
        endsWalk(x, () -> x.copy(0, 0));
        endsWalk(x, () -> x.copy(1, 0));
        endsWalk(x, () -> x.combine(1, 2, 0, 1));
        endsWalk(x, () -> x.sift(0, 3, false));
        endsWalk(x, () -> x.purge(0, 999));
        endsWalk(x, () -> x.grow(0, 2));
        endsWalk(x, () -> x.shift(0, 0));
        endsWalk(x, () -> x.turn(0));
        endsWalk(x, () -> x.mend(0, 0, 1));
        endsWalk(x, () -> x.mend(0, 1, 1));
        endsWalk(x, () -> x.lensPut(0, 4, 1));
        endsWalk(x, () -> x.harvest(0));
        endsWalk(x, () -> x.pick(0, true));
        endsWalk(x, () -> x.pour(0));
        endsWalk(x, () -> x.poll(0, true));
        endsWalk(x, () -> x.thin(0, 1000));
        endsWalk(x, () -> x.clear(0));
        Bags empty = with("", "7x1");
        endsWalk(empty, () -> empty.poll(0, true));
        endsWalk(empty, () -> empty.pick(0, true));
        endsWalk(empty, () -> empty.pour(0));
        endsWalk(empty, () -> empty.clear(0));
        endsWalk(empty, () -> empty.thin(0, 2));
        endsWalk(empty, () -> empty.grow(0, 2));
        endsWalk(empty, () -> empty.shift(0, 2));
    }

    private static void allThatKeepsAWalk() {
        Bags x = with("1x4 2x3", "7x1", "1x1");
        x.lens(0, 1, 0, 3);
        keepsWalk(x, () -> x.copy(0, 1));
        keepsWalk(x, () -> x.combine(0, 0, 1, 0));
        keepsWalk(x, () -> x.sift(1, 0, true));
        keepsWalk(x, () -> x.mend(1, 0, 1));
        keepsWalk(x, () -> x.flow(1));
        keepsWalk(x, () -> x.harvest(1));
        keepsWalk(x, () -> x.pour(1));
        keepsWalk(x, () -> x.stepSet(5));
        keepsWalk(x, () -> x.none());
        keepsWalk(x, () -> x.text(0, true));
        keepsWalk(x, () -> thrownBy(() -> x.put(0, 1, FULL)));
        keepsWalk(x, () -> thrownBy(() -> x.clear(4)));
    }

    private static void window() {
        Bags x = flowed(9, 1, 2, 3, 4, 5);
        is(x.window(5), 0);
        is(x.window(3), 2);
        is(x.halves(), "4,3|5");
        is(x.ofWindow(1), 3);
        is(x.ofWindow(6), 3);
        is(x.window(30), 0);
        is(x.ofWindow(0), 3);
        is(x.window(1), 2);
        is(x.halves(), "5|");
        argument(x, () -> x.window(0), () -> x.window(31), () -> x.window(-1));
        Bags y = new Bags();
        y.window(30);
        for (int i = 0; i < 31; i++) {
            y.flow(i);
        }
        is(y.ofWindow(0), 30);
        is(y.ofWindow(6), 1);
        is(y.window(1), 29);
        is(y.halves(), "30|");
    }

    private static void flow() {
        Bags x = new Bags();
        is(x.flow(5), 5);
        is(x.flow(7), 5);
        is(x.flow(6), 6);
        is(x.flow(-999), 5);
        is(x.flow(999), 6);
        x.window(2);
        is(x.halves(), "-999|999");
        is(x.flow(3), 3);
        is(x.halves(), "3|999");
        is(x.ofWindow(9), 6);
        argument(x, () -> x.flow(1000), () -> x.flow(-1000));
        Bags y = new Bags();
        for (int i = 1; i <= 10; i++) {
            y.flow(i);
        }
        is(y.ofWindow(0), 9);
        is(y.halves(), "6,5,4,3,2|7,8,9,10");
    }

    private static void pour() {
        Bags x = with("2x2 4x1");
        x.window(2);
        is(x.pour(0), 2);
        is(x.text(0, false), "2x1 4x1");
        is(x.pour(0), 2);
        is(x.pour(0), 4);
        is(x.halves(), "2|4");
        is(x.pour(0), NONE);
        is(x.halves(), "2|4");
        is(x.ofWindow(9), 3);
        is(x.books(2), NONE);
        index(x, () -> x.pour(-1), () -> x.pour(4));
    }

    private static void leave() {
        Bags x = flowed(9, 5, 1, 5, 2);
        is(x.leave(5), true);
        is(x.ofWindow(6), 1);
        is(x.leave(5), true);
        is(x.leave(5), false);
        is(x.halves(), "1|2");
        is(x.leave(1), true);
        is(x.ofWindow(6), 2);
        is(x.ofWindow(7), 2);
        is(x.ofWindow(9), 4);
        argument(x, () -> x.leave(1000), () -> x.leave(-1000));
    }

    private static void pull() {
        Bags x = flowed(9, 5, 1, 5, 2);
        is(x.pull(true), 2);
        is(x.halves(), "5,1|5");
        is(x.pull(false), 5);
        is(x.ofWindow(6), 1);
        is(x.ofWindow(7), 5);
        is(x.pull(true), 1);
        is(x.pull(false), NONE);
        is(x.ofWindow(0), 1);
        is(x.pull(true), 5);
        is(x.pull(true), NONE);
        is(x.pull(false), NONE);
        is(x.ofWindow(0), 0);
    }

    private static void oldest() {
        Bags x = flowed(9, 5, 1, 5);
        is(x.oldest(), 5);
        is(x.halves(), "1|5");
        is(x.oldest(), 1);
        is(x.oldest(), 5);
        is(x.oldest(), NONE);
        is(x.ofWindow(9), 3);
    }

    private static void harvest() {
        Bags x = flowed(9, 5, 1, 5);
        x.put(0, 1, 4);
        is(x.harvest(0), 3);
        is(x.text(0, false), "1x5 5x2");
        is(x.halves(), "|");
        is(x.ofWindow(1), 9);
        is(x.ofWindow(2), NONE);
        is(x.ofWindow(9), 3);
        is(x.holds(5), 0);
        is(x.flow(9), 9);
        is(x.oldest(), 9);
        is(x.harvest(0), 0);
        x.flow(7);
        x.flow(8);
        index(x, () -> x.harvest(-1), () -> x.harvest(4));
        x.fill(1, 10, 48, 1, 1);
        state(x, () -> x.harvest(1));
        x.put(2, 7, FULL);
        state(x, () -> x.harvest(2));
        x.put(3, 7, FULL - 1);
        is(x.harvest(3), 2);
        is(x.text(3, false), "7x1000000 8x1");
        is(x.harvest(1), 0);
        x.window(30);
        for (int i = 0; i < 30; i++) {
            x.flow(i);
        }
        state(x, () -> x.harvest(1));
        x.clear(1);
        is(x.harvest(1), 30);
        is(x.ofBag(1, 1), 30);
    }

    private static void none() {
        Bags x = flowed(9, 5);
        is(x.none(), -9);
        is(x.none(), -9);
        is(x.books(0), 2);
        is(x.halves(), "5|");
        is(x.ofWindow(9), 1);
    }

    private static void ofWindow() {
        Bags x = new Bags();
        long[] empty = {0, 9, NONE, NONE, 0, 0, NONE, NONE, 0, 0};
        for (int what = 0; what <= 9; what++) {
            is(x.ofWindow(what), empty[what]);
        }
        x.flow(7);
        long[] one = {1, 9, 7, NONE, 1, 0, 7, 7, 7, 1};
        for (int what = 0; what <= 9; what++) {
            is(x.ofWindow(what), one[what]);
        }
        x.window(4);
        x.flow(-20);
        x.flow(3);
        x.flow(3);
        x.flow(1);
        long[] four = {4, 4, 1, 3, 2, 2, -20, 1, -13, 5};
        for (int what = 0; what <= 9; what++) {
            is(x.ofWindow(what), four[what]);
        }
        x.leave(1);
        long[] three = {3, 4, 3, 3, 2, 1, -20, 3, -14, 5};
        for (int what = 0; what <= 9; what++) {
            is(x.ofWindow(what), three[what]);
        }
        argument(x, () -> x.ofWindow(-1), () -> x.ofWindow(10));
    }

    private static void holds() {
        Bags x = flowed(3, 5, 5, 1, 5);
        is(x.holds(5), 2);
        is(x.holds(1), 1);
        is(x.holds(0), 0);
        is(x.holds(-999), 0);
        argument(x, () -> x.holds(1000), () -> x.holds(-1000));
    }

    private static void halves() {
        is(new Bags().halves(), "|");
        is(flowed(9, 9).halves(), "9|");
        is(flowed(9, 9, 1, 5, 3).halves(), "3,1|5,9");
        is(flowed(9, 3, 9, -1, 5, 3).halves(), "3,3,-1|5,9");
        is(flowed(9, 4, 4, 4, 4).halves(), "4,4|4,4");
    }

    private static void wouldFlow() {
        Bags x = flowed(3, 5, 1);
        is(x.wouldFlow(9), 5);
        is(x.wouldFlow(3), 3);
        is(x.halves(), "1|5");
        x.flow(7);
        is(x.wouldFlow(9), 7);
        is(x.wouldFlow(-9), 1);
        is(x.wouldFlow(5), 5);
        is(x.halves(), "5,1|7");
        is(x.ofWindow(9), 3);
        is(new Bags().wouldFlow(-999), -999);
        is(flowed(1, 5).wouldFlow(8), 8);
        is(flowed(2, 5, 6).wouldFlow(9), 6);
        is(flowed(9, 5).wouldFlow(9), 5);
        is(flowed(3, 5, 5, 9).wouldFlow(7), 7);
        argument(x, () -> x.wouldFlow(1000), () -> x.wouldFlow(-1000));
    }

    private static void ofBag() {
        Bags x = with("-3x2 0x5 4x5 9x1");
        long[] some = {13, 4, 23, -3, 9, 2, 1, 5, 0, 0, 0};
        long[] empty = {0, 0, 0, NONE, NONE, 0, 0, 0, NONE, NONE, NONE};
        for (int what = 0; what <= 10; what++) {
            is(x.ofBag(0, what), some[what]);
            is(x.ofBag(1, what), empty[what]);
        }
        Bags y = with("1x2 3x2");
        is(y.ofBag(0, 9), 1);
        is(y.ofBag(0, 10), 3);
        is(with("1x2 3x3").ofBag(0, 9), 3);
        Bags full = new Bags();
        full.fill(0, 960, 999, 1, FULL);
        is(full.ofBag(0, 0), 40000000L);
        is(full.ofBag(0, 2), 39180000000L);
        is(full.ofBag(0, 8), 960);
        is(full.ofBag(0, 9), 979);
        is(full.ofBag(0, 10), 980);
        index(x, () -> x.ofBag(-1, 0), () -> x.ofBag(4, 11));
        argument(x, () -> x.ofBag(0, -1), () -> x.ofBag(0, 11), () -> x.ofBag(1, 11));
    }

    private static void count() {
        Bags x = with("-999x2 999x1000000");
        is(x.count(0, -999), 2);
        is(x.count(0, 999), FULL);
        is(x.count(0, 0), 0);
        is(x.count(1, 999), 0);
        index(x, () -> x.count(-1, 0), () -> x.count(4, 1000));
        argument(x, () -> x.count(0, 1000), () -> x.count(0, -1000));
    }

    private static void rank() {
        Bags x = with("-3x2 0x5 4x1");
        is(x.rank(0, -999), 0);
        is(x.rank(0, -3), 0);
        is(x.rank(0, -2), 2);
        is(x.rank(0, 0), 2);
        is(x.rank(0, 4), 7);
        is(x.rank(0, 999), 8);
        is(x.rank(1, 0), 0);
        index(x, () -> x.rank(-1, 0), () -> x.rank(4, 1000));
        argument(x, () -> x.rank(0, 1000), () -> x.rank(0, -1000));
    }

    private static void select() {
        Bags x = with("-3x2 0x5 4x1");
        is(x.select(0, 0), -3);
        is(x.select(0, 1), -3);
        is(x.select(0, 2), 0);
        is(x.select(0, 6), 0);
        is(x.select(0, 7), 4);
        x.fill(1, 1, 40, 1, FULL);
        is(x.select(1, 39999999), 40);
        is(x.select(1, 1000000), 2);
        is(x.select(1, 999999), 1);
        index(x, () -> x.select(-1, 0), () -> x.select(4, 0), () -> x.select(0, -1), () -> x.select(0, 8),
            () -> x.select(1, 40000000), () -> x.select(2, 0), () -> x.select(0, Integer.MAX_VALUE),
            () -> x.select(0, Integer.MIN_VALUE));
    }

    private static void within() {
        Bags x = with("-3x2 0x5 4x1");
        is(x.within(0, -3, 4, true), 3);
        is(x.within(0, -3, 4, false), 8);
        is(x.within(0, -2, 3, true), 1);
        is(x.within(0, -2, 3, false), 5);
        is(x.within(0, 0, 0, false), 5);
        is(x.within(0, 1, 1, true), 0);
        is(x.within(0, -999, 999, false), 8);
        is(x.within(0, 1, 0, true), -9);
        is(x.within(0, 1, 0, false), -9);
        is(x.books(0), 0);
        index(x, () -> x.within(-1, 0, 0, true), () -> x.within(4, 1000, 0, true));
        argument(x, () -> x.within(0, -1000, 0, true), () -> x.within(0, 1000, 0, true),
            () -> x.within(0, 0, 1000, true), () -> x.within(0, 0, -1000, false));
    }

    private static void near() {
        Bags x = with("-3x2 0x5 4x1", "-999x1 999x1");
        is(x.near(0, 0, 0), 0);
        is(x.near(0, 0, 1), 0);
        is(x.near(0, 0, 2), -3);
        is(x.near(0, 0, 3), 4);
        is(x.near(0, 2, 0), 0);
        is(x.near(0, 2, 1), 4);
        is(x.near(0, 2, 2), 0);
        is(x.near(0, 2, 3), 4);
        is(x.near(0, -1, 3), 0);
        is(x.near(0, -1, 1), 0);
        is(x.near(0, 1, 2), 0);
        is(x.near(0, 1, 0), 0);
        is(x.near(0, -4, 0), NONE);
        is(x.near(0, 5, 1), NONE);
        is(x.near(0, -3, 2), NONE);
        is(x.near(0, 4, 3), NONE);
        is(x.near(1, 999, 3), NONE);
        is(x.near(1, 999, 0), 999);
        is(x.near(1, -999, 2), NONE);
        is(x.near(1, -999, 1), -999);
        is(x.near(2, 0, 0), NONE);
        is(x.near(2, 0, 1), NONE);
        index(x, () -> x.near(-1, 0, 0), () -> x.near(4, 1000, 4));
        argument(x, () -> x.near(0, 1000, 0), () -> x.near(0, -1000, 0), () -> x.near(0, 0, -1),
            () -> x.near(0, 0, 4));
    }

    private static void share() {
        Bags x = with("-3x2 0x5 4x1");
        long[][] thirds = {{2, -3, -3, 1, -6}, {3, 0, 0, 1, 0}, {3, 0, 4, 2, 4}};
        for (int one = 0; one < 3; one++) {
            for (int what = 0; what <= 4; what++) {
                is(x.share(0, 3, one, what), thirds[one][what]);
            }
        }
        long[] all = {8, -3, 4, 3, -2};
        long[] nothing = {0, NONE, NONE, 0, 0};
        for (int what = 0; what <= 4; what++) {
            is(x.share(0, 1, 0, what), all[what]);
            is(x.share(0, 20, 0, what), nothing[what]);
            is(x.share(1, 3, 1, what), nothing[what]);
        }
        x.fill(1, 960, 999, 1, FULL);
        is(x.share(1, 20, 19, 0), 2000000);
        is(x.share(1, 20, 19, 4), 1997000000L);
        is(x.share(1, 1, 0, 4), 39180000000L);
        index(x, () -> x.share(-1, 3, 0, 0), () -> x.share(4, 0, 0, 0));
        argument(x, () -> x.share(0, 0, 0, 0), () -> x.share(0, 21, 0, 0), () -> x.share(0, 3, -1, 0),
            () -> x.share(0, 3, 3, 0), () -> x.share(0, 3, 0, -1), () -> x.share(0, 3, 0, 5),
            () -> x.share(0, Integer.MIN_VALUE, 0, 0));
    }

    private static void shares() {
        Bags x = with("-2x1 0x1 5x1");
        is(x.shares(0, 4), "- -2 0 5");
        is(x.shares(0, 1), "-2");
        is(x.shares(0, 3), "-2 0 5");
        is(x.shares(0, 2), "-2 0");
        is(x.shares(1, 1), "-");
        is(x.shares(1, 3), "- - -");
        x.fill(2, 960, 999, 1, FULL);
        is(x.shares(2, 20), "960 962 964 966 968 970 972 974 976 978 980 982 984 986 988 990 992 994 996 998");
        index(x, () -> x.shares(-1, 1), () -> x.shares(4, 0));
        argument(x, () -> x.shares(0, 0), () -> x.shares(0, 21), () -> x.shares(0, -1));
    }

    private static void isIn() {
        Bags x = with("1x2 3x4", "1x2 2x1 3x5", "1x3 3x4");
        is(x.isIn(0, 1), true);
        is(x.isIn(1, 0), false);
        is(x.isIn(2, 1), false);
        is(x.isIn(0, 2), true);
        is(x.isIn(0, 0), true);
        is(x.isIn(3, 0), true);
        is(x.isIn(0, 3), false);
        is(x.isIn(3, 3), true);
        index(x, () -> x.isIn(-1, 0), () -> x.isIn(0, -1), () -> x.isIn(4, 0), () -> x.isIn(0, 4));
    }

    private static void isSame() {
        Bags x = with("1x2 3x4", "1x2 3x4", "1x2 3x5");
        is(x.isSame(0, 1), true);
        is(x.isSame(0, 0), true);
        is(x.isSame(0, 2), false);
        is(x.isSame(2, 0), false);
        is(x.isSame(0, 3), false);
        is(x.isSame(3, 3), true);
        x.put(1, 9, 1);
        is(x.isSame(0, 1), false);
        is(x.isSame(1, 0), false);
        index(x, () -> x.isSame(-1, 0), () -> x.isSame(0, -1), () -> x.isSame(4, 0), () -> x.isSame(0, 4));
    }

    private static void distance() {
        Bags x = with("1x2 3x4", "1x5 2x1");
        is(x.distance(0, 1), 8);
        is(x.distance(1, 0), 8);
        is(x.distance(0, 0), 0);
        is(x.distance(0, 3), 6);
        x.fill(2, 1, 40, 1, FULL);
        x.fill(3, 101, 140, 1, FULL);
        is(x.distance(2, 3), 80000000L);
        index(x, () -> x.distance(-1, 0), () -> x.distance(0, -1), () -> x.distance(4, 0), () -> x.distance(0, 4));
    }

    private static void would() {
        Bags x = with("1x5 2x1 3x2", "2x4 3x2 9x1");
        long[] sizes = {15, 12, 3, 5, 9};
        long[] kinds = {4, 4, 2, 1, 3};
        for (int how = 0; how <= 4; how++) {
            is(x.would(0, 1, how, false), sizes[how]);
            is(x.would(0, 1, how, true), kinds[how]);
        }
        is(x.would(1, 0, 3, false), 4);
        is(x.would(1, 0, 3, true), 2);
        is(x.would(0, 0, 0, false), 16);
        x.fill(2, 1, 40, 1, FULL);
        x.fill(3, 101, 140, 1, FULL);
        is(x.would(2, 3, 0, true), 80);
        is(x.would(2, 3, 4, true), 80);
        is(x.would(2, 2, 0, false), 80000000L);
        is(x.text(0, false), "1x5 2x1 3x2");
        index(x, () -> x.would(-1, 0, 0, true), () -> x.would(0, -1, 0, true), () -> x.would(4, 0, 9, true),
            () -> x.would(0, 4, 0, false));
        argument(x, () -> x.would(0, 1, -1, true), () -> x.would(0, 1, 5, false));
    }

    private static void text() {
        Bags x = with("-3x2 0x1", "999x1000000");
        is(x.text(0, false), "-3x2 0x1");
        is(x.text(0, true), "0x1 -3x2");
        is(x.text(1, true), "999x1000000");
        is(x.text(2, false), "");
        is(x.text(2, true), "");
        index(x, () -> x.text(-1, true), () -> x.text(4, false));
    }

    private static void hasCount() {
        Bags x = with("-3x2 0x1 4x1000000");
        is(x.hasCount(0, 2), true);
        is(x.hasCount(0, 1), true);
        is(x.hasCount(0, FULL), true);
        is(x.hasCount(0, 3), false);
        is(x.hasCount(1, 1), false);
        index(x, () -> x.hasCount(-1, 1), () -> x.hasCount(4, 0));
        argument(x, () -> x.hasCount(0, 0), () -> x.hasCount(0, FULL + 1));
    }

    private static void books() {
        Bags x = with("5x3");
        is(x.books(0), 0);
        is(x.books(1), 0);
        is(x.books(2), NONE);
        is(x.books(3), 0);
        x.none();
        x.lens(0, 0, 1, 0);
        x.lens(0, 0, 1, 1);
        x.lensPut(0, 1, 1);
        x.within(0, 1, 0, true);
        x.knock();
        x.poll(0, true);
        is(x.books(0), 3);
        is(x.books(1), 1);
        is(x.books(2), 5);
        is(x.books(3), 3);
        argument(x, () -> x.books(-1), () -> x.books(4));
    }

    private static void knock() {
        Bags x = new Bags();
        for (int i = 1; i <= 5; i++) {
            is(x.knock(), i);
        }
        is(x.books(1), 5);
        is(new Bags().knock(), 1);
    }

    private static void isSound() {
        is(new Bags().isSound(), true);
        Bags x = flowed(4, 3, 3, -7, 2, 8);
        x.fill(0, 1, 40, 1, FULL);
        x.fill(1, -20, 19, 1, 3);
        x.copy(0, 2);
        x.put(3, 999, FULL);
        x.walk(1);
        is(x.isSound(), true);
        x.step();
        is(x.isSound(), true);
        Bags within = with("1x1 2x1", "1x1", "1x1 2x1");
        is(within.isSound(), true);
        for (int i = 0; i < 12; i++) {
            within.flow(i % 2 == 0 ? i : -i);
            is(within.isSound(), true);
        }
    }

    private static void digest() {
        Bags x = new Bags();
        is(x.digest(), digestOfNew());
        is(x.digest(), reckoned(x));
        x.knock();
        is(x.digest(), digestOfNew() + 31L * 31 * 31);
        x.fill(0, -7, 30, 3, 11);
        x.fill(1, -6, 20, 2, 4);
        x.copy(1, 2);
        x.put(2, 999, FULL);
        x.poll(0, true);
        x.lens(0, 0, -5, 6);
        x.lens(1, 2, 3, 0);
        x.lens(2, 1, 0, -99);
        x.walk(1);
        x.step();
        x.none();
        x.flow(4);
        x.flow(-17);
        x.flow(200);
        is(x.digest(), reckoned(x));
        is(x.digest(), reckoned(x));
    }

    /** What the document tells for a new object, reckoned by hand. */
    private static long digestOfNew() {
        long d = 58511;
        long[] bag = {0, 0, 0, NONE, NONE, 0, 0, 0, NONE, NONE, NONE, -1, 0, 0, NONE, NONE,
            0, NONE, NONE, 0, 0, 0, NONE, NONE, 0, 0, 0, NONE, NONE, 0, 0, 0, "- - - -".length()};
        for (int i = 0; i < 4; i++) {
            d = mixed(d, bag);
        }
        for (int pair = 0; pair < 6; pair++) {
            d = mixed(d, 0, 0, 0, 0, 0, 0, 1);
        }
        return mixed(d, -1, NONE, 0, 0, 0, 0, 9, NONE, NONE, 0, 0, NONE, NONE, 0, 0, 1, 0, 0, NONE, 0, 1);
    }

    private static long mixed(long start, long... row) {
        long d = start;
        for (long v : row) {
            d = d * 31 + v;
        }
        return d;
    }

    /** The digest out of what the other methods answer. */
    private static long reckoned(Bags x) {
        long d = 58511;
        for (int bag = 0; bag < 4; bag++) {
            for (int what = 0; what <= 10; what++) {
                d = mixed(d, x.ofBag(bag, what));
            }
            for (int what = 0; what <= 4; what++) {
                d = mixed(d, x.ofLens(bag, what));
            }
            for (int i = 0; i < 15; i++) {
                d = mixed(d, x.share(bag, 3, i / 5, i % 5));
            }
            d = mixed(d, x.text(bag, false).length(), x.shares(bag, 4).length());
        }
        int[][] pairs = {{0, 1}, {0, 2}, {0, 3}, {1, 2}, {1, 3}, {2, 3}};
        for (int[] pair : pairs) {
            d = mixed(d, x.distance(pair[0], pair[1]));
            for (int how = 0; how <= 4; how++) {
                d = mixed(d, x.would(pair[0], pair[1], how, false));
            }
            d = mixed(d, x.isIn(pair[0], pair[1]) ? 1 : 0);
        }
        for (int what = 0; what <= 4; what++) {
            d = mixed(d, x.ofWalk(what));
        }
        for (int what = 0; what <= 9; what++) {
            d = mixed(d, x.ofWindow(what));
        }
        return mixed(d, x.halves().length(), x.books(0), x.books(1), x.books(2), x.books(3), x.isSound() ? 1 : 0);
    }

    private static final Call[] PROMISES = {
        PromiseTest::newObject, PromiseTest::put, PromiseTest::take, PromiseTest::tell, PromiseTest::place,
        PromiseTest::swap, PromiseTest::poll, PromiseTest::pick, PromiseTest::clear, PromiseTest::fill,
        PromiseTest::copy, PromiseTest::combine, PromiseTest::sift, PromiseTest::purge, PromiseTest::thin,
        PromiseTest::grow, PromiseTest::shift, PromiseTest::turn, PromiseTest::mend, PromiseTest::lens,
        PromiseTest::lensPut, PromiseTest::lensTake, PromiseTest::lensPoll, PromiseTest::lensClear,
        PromiseTest::ofLens, PromiseTest::lensCount, PromiseTest::walk, PromiseTest::step, PromiseTest::stepSet,
        PromiseTest::ofWalk, PromiseTest::window, PromiseTest::flow, PromiseTest::pour, PromiseTest::leave,
        PromiseTest::pull, PromiseTest::oldest, PromiseTest::harvest, PromiseTest::none, PromiseTest::ofWindow,
        PromiseTest::holds, PromiseTest::halves, PromiseTest::wouldFlow, PromiseTest::ofBag, PromiseTest::count,
        PromiseTest::rank, PromiseTest::select, PromiseTest::within, PromiseTest::near, PromiseTest::share,
        PromiseTest::shares, PromiseTest::isIn, PromiseTest::isSame, PromiseTest::distance, PromiseTest::would,
        PromiseTest::text, PromiseTest::hasCount, PromiseTest::books, PromiseTest::knock, PromiseTest::isSound,
        PromiseTest::digest,
    };

    public static void main(String[] arguments) {
        for (Call test : PROMISES) {
            promise++;
            testing("promise " + promise);
            test.make();
        }
        report("PromiseTest: " + promise + " promises");
    }
}
