import java.lang.reflect.Field;

/**
 * No run of calls makes an object unsound, so that here its fields are written from outside: isSound() must see what is
 * broken then, and the digest must end with 0. This test knows how the state is held, and goes along if that is changed.
 */
public final class SoundTest extends Checks {
    private static Field field(Object of, String name) {
        try {
            Field field = of.getClass().getDeclaredField(name);
            field.setAccessible(true);
            return field;
        } catch (NoSuchFieldException e) {
            throw new IllegalStateException("the state is held in another way: there is no " + name, e);
        }
    }

    private static Object inside(Object of, String name) {
        try {
            return field(of, name).get(of);
        } catch (IllegalAccessException e) {
            throw new IllegalStateException(e);
        }
    }

    private static void write(Object of, String name, int value) {
        try {
            field(of, name).setInt(of, value);
        } catch (IllegalAccessException e) {
            throw new IllegalStateException(e);
        }
    }

    /** Writes the rows of a bag as they are told, whether they are sound or not. */
    private static void write(Object bag, int[] members, int[] counts) {
        System.arraycopy(members, 0, (int[]) inside(bag, "members"), 0, members.length);
        System.arraycopy(counts, 0, (int[]) inside(bag, "counts"), 0, counts.length);
        write(bag, "kinds", members.length);
    }

    private static int[] row(int length, int first, int step) {
        int[] row = new int[length];
        for (int i = 0; i < length; i++) {
            row[i] = first + i * step;
        }
        return row;
    }

    private static void bag(boolean isSound, int[] members, int[] counts) {
        for (int bag = 0; bag <= 3; bag++) {
            Bags x = with("1x2 5x3", "1x2 5x3", "1x2", "");
            write(inside(x, "bag" + bag), members, counts);
            is(x.isSound(), isSound);
        }
    }

    private static void bags() {
        testing("isSound() of bags");
        int[] one = {1};
        bag(true, new int[] {}, new int[] {});
        bag(true, new int[] {3, 5}, new int[] {2, 4});
        bag(true, new int[] {-999, 0, 999}, new int[] {1, FULL, 1});
        bag(false, new int[] {5, 3}, new int[] {2, 4});
        bag(false, new int[] {3, 3}, new int[] {2, 4});
        bag(false, new int[] {1, 2, 9, 4}, new int[] {1, 1, 1, 1});
        bag(false, one, new int[] {0});
        bag(false, new int[] {1, 2, 3}, new int[] {1, 0, 1});
        bag(false, new int[] {1, 2, 3}, new int[] {2, -1, 2});
        bag(true, one, new int[] {FULL});
        bag(false, one, new int[] {FULL + 1});
        bag(true, row(40, -20, 1), row(40, 1, 0));
        bag(false, row(41, -20, 1), row(41, 1, 0));
    }

    private static void window() {
        testing("isSound() of the window");
        Bags x = flowed(9, 5, 1, 5, 3);
        Object values = inside(x, "values");
        is(x.isSound(), true);
        write(values, "length", 4);
        is(x.isSound(), true);
        write(values, "length", 3);
        is(x.isSound(), false);
        write(values, "length", 9);
        is(x.isSound(), true);
        // The values are 5, 1, 5 and 3, so that the median is 3, whatever they are ranked as.
        Object ranked = inside(values, "ranked");
        write(ranked, new int[] {1, 4, 5}, new int[] {1, 1, 2});
        is(x.isSound(), false);
        write(ranked, new int[] {1, 5}, new int[] {1, 3});
        is(x.isSound(), false);
        write(ranked, new int[] {1, 3}, new int[] {2, 2});
        is(x.isSound(), false);
        write(ranked, new int[] {}, new int[] {});
        is(x.isSound(), false);
        write(ranked, new int[] {1, 3, 5}, new int[] {1, 1, 2});
        is(x.isSound(), true);
        Bags empty = new Bags();
        write(inside(inside(empty, "values"), "ranked"), new int[] {1}, new int[] {1});
        is(empty.isSound(), false);
    }

    private static void digest() {
        testing("the end of the digest");
        Bags sound = flowed(9, 5, 1, 5, 3);
        Bags broken = flowed(9, 5, 1, 5, 3);
        write(inside(sound, "values"), "length", 4);
        write(inside(broken, "values"), "length", 3);
        // LENGTH is one less there, with 14 numbers behind it, and the last of these is 0 instead of 1.
        long behind = 1;
        for (int i = 0; i < 14; i++) {
            behind *= 31;
        }
        is(sound.digest() - broken.digest(), behind + 1);
    }

    public static void main(String[] arguments) {
        bags();
        window();
        digest();
        report("SoundTest: what is broken is seen");
    }
}
