import java.util.ArrayList;
import java.util.Collections;
import java.util.List;
import java.util.Map;
import java.util.TreeMap;
import java.util.TreeSet;

/** The document's words once more, written as naively as may be; Bags is held against it. */
final class Model {
    private static final int NONE = -9999;

    private final List<TreeMap<Integer, Integer>> bags = new ArrayList<>();
    /** form, from, to; null without a lens. */
    private final int[][] lenses = new int[4][];
    private List<Integer> window = new ArrayList<>();
    private int length = 9;
    private int came = 0;
    private int walkBag = -1;
    private int at = NONE;
    private int seen = 0;
    private int lastMember = NONE;
    private int lastCount = 0;
    private int lapses = 0;
    private int knocks = 0;

    Model() {
        for (int i = 0; i < 4; i++) {
            bags.add(new TreeMap<>());
        }
    }

    private TreeMap<Integer, Integer> bag(int bag) {
        if (bag < 0 || bag > 3) {
            throw new IndexOutOfBoundsException();
        }
        return bags.get(bag);
    }

    private static void range(int value, int least, int greatest) {
        if (value < least || value > greatest) {
            throw new IllegalArgumentException();
        }
    }

    private static void number(int value) {
        range(value, -999, 999);
    }

    private void change(int bag, Map<Integer, Long> then) {
        TreeMap<Integer, Integer> kept = new TreeMap<>();
        for (Map.Entry<Integer, Long> e : then.entrySet()) {
            if (e.getValue() > 1000000) {
                throw new IllegalStateException();
            }
            if (e.getValue() > 0) {
                kept.put(e.getKey(), (int) (long) e.getValue());
            }
        }
        if (kept.size() > 40) {
            throw new IllegalStateException();
        }
        bags.set(bag, kept);
        if (walkBag == bag) {
            walkBag = -1;
            at = NONE;
            seen = 0;
        }
    }

    private TreeMap<Integer, Long> wide(int bag) {
        TreeMap<Integer, Long> wide = new TreeMap<>();
        for (Map.Entry<Integer, Integer> e : bag(bag).entrySet()) {
            wide.put(e.getKey(), (long) e.getValue());
        }
        return wide;
    }

    private static long get(Map<Integer, Long> of, int member) {
        return of.getOrDefault(member, 0L);
    }

    private int copies(int bag, int member) {
        return bag(bag).getOrDefault(member, 0);
    }

    private long size(int bag) {
        long sum = 0;
        for (int c : bag(bag).values()) {
            sum += c;
        }
        return sum;
    }

    public int put(int bag, int member, int count) {
        TreeMap<Integer, Long> then = wide(bag);
        number(member);
        range(count, 1, 1000000);
        then.put(member, get(then, member) + count);
        change(bag, then);
        return copies(bag, member);
    }

    public int take(int bag, int member, int count) {
        TreeMap<Integer, Long> then = wide(bag);
        number(member);
        range(count, 1, 1000000);
        int before = copies(bag, member);
        then.put(member, Math.max(0, get(then, member) - count));
        change(bag, then);
        return before - copies(bag, member);
    }

    public int tell(int bag, int member, int count) {
        TreeMap<Integer, Long> then = wide(bag);
        number(member);
        range(count, 0, 1000000);
        int before = copies(bag, member);
        then.put(member, (long) count);
        change(bag, then);
        return before;
    }

    public int place(int bag, int member, int count, boolean isFresh) {
        TreeMap<Integer, Long> then = wide(bag);
        number(member);
        range(count, 1, 1000000);
        int before = copies(bag, member);
        boolean fresh = !bag(bag).containsKey(member);
        if (isFresh ? fresh : !fresh) {
            then.put(member, (long) count);
        }
        change(bag, then);
        return before;
    }

    public boolean swap(int bag, int member, int was, int count) {
        TreeMap<Integer, Long> then = wide(bag);
        number(member);
        range(was, 1, 1000000);
        range(count, 1, 1000000);
        boolean so = bag(bag).containsKey(member) && bag(bag).get(member) == was;
        if (so) {
            then.put(member, (long) count);
        }
        change(bag, then);
        return so;
    }

    public int poll(int bag, boolean isGreatest) {
        TreeMap<Integer, Long> then = wide(bag);
        if (then.isEmpty()) {
            change(bag, then);
            return 0;
        }
        lastMember = isGreatest ? then.lastKey() : then.firstKey();
        lastCount = copies(bag, lastMember);
        then.remove(lastMember);
        change(bag, then);
        return lastCount;
    }

    public int pick(int bag, boolean isGreatest) {
        TreeMap<Integer, Long> then = wide(bag);
        int member = NONE;
        if (!then.isEmpty()) {
            member = isGreatest ? then.lastKey() : then.firstKey();
            then.put(member, get(then, member) - 1);
        }
        change(bag, then);
        return member;
    }

    public long clear(int bag) {
        long before = size(bag);
        change(bag, new TreeMap<>());
        return before;
    }

    public int fill(int bag, int from, int to, int step, int count) {
        TreeMap<Integer, Long> then = wide(bag);
        number(from);
        number(to);
        range(step, 1, 999);
        range(count, 1, 1000000);
        int many = 0;
        for (int n = from; n <= to; n += step) {
            then.put(n, get(then, n) + count);
            many++;
        }
        change(bag, then);
        return many;
    }

    public long copy(int from, int to) {
        TreeMap<Integer, Long> then = wide(from);
        bag(to);
        change(to, then);
        return size(to);
    }

    private TreeSet<Integer> eitherOf(int one, int other) {
        TreeSet<Integer> either = new TreeSet<>(bag(one).keySet());
        either.addAll(bag(other).keySet());
        return either;
    }

    private TreeMap<Integer, Long> both(int one, int other, int how) {
        TreeMap<Integer, Long> then = new TreeMap<>();
        for (int n : eitherOf(one, other)) {
            long a = copies(one, n);
            long b = copies(other, n);
            long c = a + b;
            if (how == 1) {
                c = a > b ? a : b;
            } else if (how == 2) {
                c = a > b ? b : a;
            } else if (how == 3) {
                c = a > b ? a - b : 0;
            } else if (how == 4) {
                c = a > b ? a - b : b - a;
            }
            if (c > 0) {
                then.put(n, c);
            }
        }
        return then;
    }

    private static long sum(TreeMap<Integer, Long> of) {
        long sum = 0;
        for (long c : of.values()) {
            sum += c;
        }
        return sum;
    }

    public long combine(int one, int other, int to, int how) {
        bag(one);
        bag(other);
        bag(to);
        range(how, 0, 4);
        change(to, both(one, other, how));
        return size(to);
    }

    public int sift(int bag, int other, boolean isKeep) {
        TreeMap<Integer, Long> then = wide(bag);
        bag(other);
        if (bag == other) {
            throw new IllegalArgumentException();
        }
        int before = then.size();
        if (isKeep) {
            then.keySet().retainAll(bag(other).keySet());
        } else {
            then.keySet().removeAll(bag(other).keySet());
        }
        change(bag, then);
        return before - then.size();
    }

    public int purge(int bag, int count) {
        TreeMap<Integer, Long> then = wide(bag);
        range(count, 1, 1000000);
        int before = then.size();
        then.values().removeIf(c -> c == count);
        change(bag, then);
        return before - then.size();
    }

    public int thin(int bag, int by) {
        TreeMap<Integer, Long> then = wide(bag);
        range(by, 2, 1000);
        then.replaceAll((m, c) -> c / by);
        int before = then.size();
        change(bag, then);
        return before - bag(bag).size();
    }

    public long grow(int bag, int by) {
        TreeMap<Integer, Long> then = wide(bag);
        range(by, 2, 1000);
        then.replaceAll((m, c) -> c * by);
        change(bag, then);
        return size(bag);
    }

    private int least(int bag) {
        return bag(bag).isEmpty() ? NONE : bag(bag).firstKey();
    }

    private int greatest(int bag) {
        return bag(bag).isEmpty() ? NONE : bag(bag).lastKey();
    }

    public int shift(int bag, int by) {
        TreeMap<Integer, Long> then = new TreeMap<>();
        bag(bag);
        number(by);
        for (int m : bag(bag).keySet()) {
            if (m + by < -999 || m + by > 999) {
                throw new IllegalStateException();
            }
            then.put(m + by, (long) copies(bag, m));
        }
        change(bag, then);
        return least(bag);
    }

    public int turn(int bag) {
        TreeMap<Integer, Long> then = new TreeMap<>();
        for (int m : bag(bag).keySet()) {
            then.put(-m, (long) copies(bag, m));
        }
        change(bag, then);
        return least(bag);
    }

    public int mend(int bag, int other, int changes) {
        TreeMap<Integer, Long> then = wide(bag);
        bag(other);
        range(changes, 1, 1000000);
        int left = changes;
        for (int n : eitherOf(bag, other)) {
            long want = copies(other, n);
            while (left > 0 && get(then, n) != want) {
                then.put(n, get(then, n) + (want > get(then, n) ? 1 : -1));
                left--;
            }
        }
        change(bag, then);
        return changes - left;
    }

    private boolean reaches(int bag, int n) {
        int[] lens = lenses[bag];
        if (lens == null) {
            return false;
        }
        if (lens[0] == 0) {
            return lens[1] <= n && n < lens[2];
        }
        return lens[0] == 1 ? n <= lens[2] : n > lens[1];
    }

    private TreeMap<Integer, Integer> inLens(int bag) {
        TreeMap<Integer, Integer> in = new TreeMap<>();
        for (Map.Entry<Integer, Integer> e : bag(bag).entrySet()) {
            if (reaches(bag, e.getKey())) {
                in.put(e.getKey(), e.getValue());
            }
        }
        return in;
    }

    private void needLens(int bag) {
        if (lenses[bag] == null) {
            throw new IllegalStateException();
        }
    }

    public int lens(int bag, int form, int from, int to) {
        bag(bag);
        range(form, 0, 2);
        number(from);
        number(to);
        if (form == 0 && from > to) {
            lapses++;
            return -9;
        }
        lenses[bag] = new int[] {form, from, to};
        return inLens(bag).size();
    }

    public int lensPut(int bag, int member, int count) {
        TreeMap<Integer, Long> then = wide(bag);
        number(member);
        range(count, 1, 1000000);
        needLens(bag);
        if (!reaches(bag, member)) {
            lapses++;
            change(bag, then);
            return -9;
        }
        then.put(member, get(then, member) + count);
        change(bag, then);
        return copies(bag, member);
    }

    public int lensTake(int bag, int member) {
        TreeMap<Integer, Long> then = wide(bag);
        number(member);
        needLens(bag);
        int taken = inLens(bag).getOrDefault(member, 0);
        if (taken > 0) {
            then.remove(member);
        }
        change(bag, then);
        return taken;
    }

    public int lensPoll(int bag) {
        TreeMap<Integer, Long> then = wide(bag);
        needLens(bag);
        TreeMap<Integer, Integer> in = inLens(bag);
        if (in.isEmpty()) {
            change(bag, then);
            return 0;
        }
        lastMember = in.firstKey();
        lastCount = in.get(lastMember);
        then.remove(lastMember);
        change(bag, then);
        return lastCount;
    }

    public long lensClear(int bag) {
        TreeMap<Integer, Long> then = wide(bag);
        needLens(bag);
        long taken = 0;
        for (Map.Entry<Integer, Integer> e : inLens(bag).entrySet()) {
            taken += e.getValue();
            then.remove(e.getKey());
        }
        change(bag, then);
        return taken;
    }

    public long ofLens(int bag, int what) {
        bag(bag);
        range(what, 0, 4);
        TreeMap<Integer, Integer> in = inLens(bag);
        if (what == 0) {
            return lenses[bag] == null ? -1 : lenses[bag][0];
        }
        if (what == 1) {
            return in.size();
        }
        if (what == 2) {
            long sum = 0;
            for (int c : in.values()) {
                sum += c;
            }
            return sum;
        }
        if (in.isEmpty()) {
            return NONE;
        }
        return what == 3 ? in.firstKey() : in.lastKey();
    }

    public int lensCount(int bag, int member) {
        bag(bag);
        number(member);
        return inLens(bag).getOrDefault(member, 0);
    }

    public int walk(int bag) {
        bag(bag);
        walkBag = bag;
        at = NONE;
        seen = 0;
        return bag(bag).size();
    }

    public int step() {
        if (walkBag < 0) {
            throw new IllegalStateException();
        }
        Integer next = bag(walkBag).higherKey(at);
        if (next == null) {
            return NONE;
        }
        at = next;
        seen++;
        return at;
    }

    public int stepSet(int count) {
        range(count, 1, 1000000);
        if (walkBag < 0 || at == NONE) {
            throw new IllegalStateException();
        }
        return bag(walkBag).put(at, count);
    }

    public int ofWalk(int what) {
        range(what, 0, 4);
        if (what == 0) {
            return walkBag;
        }
        if (what == 1) {
            return at;
        }
        if (what == 2) {
            return at == NONE ? 0 : copies(walkBag, at);
        }
        if (what == 3) {
            return seen;
        }
        return walkBag >= 0 && bag(walkBag).higherKey(at) != null ? 1 : 0;
    }

    public int window(int newLength) {
        range(newLength, 1, 30);
        length = newLength;
        int fell = 0;
        while (window.size() > length) {
            window.remove(0);
            fell++;
        }
        return fell;
    }

    private List<Integer> sorted() {
        List<Integer> sorted = new ArrayList<>(window);
        Collections.sort(sorted);
        return sorted;
    }

    private List<Integer> half(boolean isLower) {
        List<Integer> sorted = sorted();
        int lower = (sorted.size() + 1) / 2;
        return isLower ? sorted.subList(0, lower) : sorted.subList(lower, sorted.size());
    }

    private int median() {
        return window.isEmpty() ? NONE : Collections.max(half(true));
    }

    private int upperMedian() {
        return half(false).isEmpty() ? NONE : Collections.min(half(false));
    }

    private void come(int value) {
        window.add(value);
        if (window.size() > length) {
            window.remove(0);
        }
    }

    public int flow(int value) {
        number(value);
        come(value);
        came++;
        return median();
    }

    public int pour(int bag) {
        int member = pick(bag, false);
        if (member != NONE) {
            come(member);
            came++;
        }
        return member;
    }

    public boolean leave(int value) {
        number(value);
        return window.remove((Integer) value);
    }

    public int pull(boolean isLower) {
        int value = isLower ? median() : upperMedian();
        window.remove((Integer) value);
        return value;
    }

    public int oldest() {
        return window.isEmpty() ? NONE : window.remove(0);
    }

    public int harvest(int bag) {
        TreeMap<Integer, Long> then = wide(bag);
        for (int value : window) {
            then.put(value, get(then, value) + 1);
        }
        change(bag, then);
        int many = window.size();
        window.clear();
        return many;
    }

    public int none() {
        lapses++;
        return -9;
    }

    public int ofWindow(int what) {
        range(what, 0, 9);
        int sum = 0;
        for (int value : window) {
            sum += value;
        }
        int n = window.size();
        int[] answers = {n, length, median(), upperMedian(), half(true).size(), half(false).size(),
            n == 0 ? NONE : window.get(0), n == 0 ? NONE : window.get(n - 1), sum, came};
        return answers[what];
    }

    public int holds(int value) {
        number(value);
        return Collections.frequency(window, value);
    }

    public String halves() {
        List<String> lower = new ArrayList<>();
        for (int value : half(true)) {
            lower.add(0, "" + value);
        }
        List<String> upper = new ArrayList<>();
        for (int value : half(false)) {
            upper.add("" + value);
        }
        return String.join(",", lower) + "|" + String.join(",", upper);
    }

    public int wouldFlow(int value) {
        number(value);
        List<Integer> kept = new ArrayList<>(window);
        come(value);
        int median = median();
        window = kept;
        return median;
    }

    private int selected(int bag, long place) {
        for (int m : bag(bag).keySet()) {
            if (ranked(bag, m) <= place && ranked(bag, m) + copies(bag, m) > place) {
                return m;
            }
        }
        return NONE;
    }

    private long ranked(int bag, int member) {
        long rank = 0;
        for (int c : bag(bag).headMap(member).values()) {
            rank += c;
        }
        return rank;
    }

    public long ofBag(int bag, int what) {
        bag(bag);
        range(what, 0, 10);
        long weight = 0;
        int mode = NONE;
        for (int m : bag(bag).keySet()) {
            weight += (long) m * copies(bag, m);
            if (mode == NONE || copies(bag, m) > copies(bag, mode)) {
                mode = m;
            }
        }
        long size = size(bag);
        long[] answers = {size, bag(bag).size(), weight, least(bag), greatest(bag), copies(bag, least(bag)),
            copies(bag, greatest(bag)), copies(bag, mode), mode,
            size == 0 ? NONE : selected(bag, (size - 1) / 2), size == 0 ? NONE : selected(bag, size / 2)};
        return answers[what];
    }

    public int count(int bag, int member) {
        bag(bag);
        number(member);
        return copies(bag, member);
    }

    public long rank(int bag, int member) {
        bag(bag);
        number(member);
        return ranked(bag, member);
    }

    public int select(int bag, int spot) {
        if (spot < 0 || spot > size(bag) - 1) {
            throw new IndexOutOfBoundsException();
        }
        return selected(bag, spot);
    }

    public long within(int bag, int from, int to, boolean isKinds) {
        bag(bag);
        number(from);
        number(to);
        if (from > to) {
            return -9;
        }
        long copies = 0;
        long kinds = 0;
        for (int n = from; n <= to; n++) {
            copies += copies(bag, n);
            kinds += bag(bag).containsKey(n) ? 1 : 0;
        }
        return isKinds ? kinds : copies;
    }

    public int near(int bag, int member, int what) {
        bag(bag);
        number(member);
        range(what, 0, 3);
        Integer near = what == 0 ? bag(bag).floorKey(member)
            : what == 1 ? bag(bag).ceilingKey(member)
            : what == 2 ? bag(bag).lowerKey(member) : bag(bag).higherKey(member);
        return near == null ? NONE : near;
    }

    public long share(int bag, int many, int one, int what) {
        bag(bag);
        range(many, 1, 20);
        range(one, 0, many - 1);
        range(what, 0, 4);
        long first = size(bag) * one / many;
        long behind = size(bag) * (one + 1) / many;
        if (behind <= first) {
            return what == 1 || what == 2 ? NONE : 0;
        }
        int least = selected(bag, first);
        int greatest = selected(bag, behind - 1);
        long sum = 0;
        for (int m : bag(bag).subMap(least, true, greatest, true).keySet()) {
            long from = Math.max(first, ranked(bag, m));
            long to = Math.min(behind, ranked(bag, m) + copies(bag, m));
            sum += (to - from) * m;
        }
        long[] answers = {behind - first, least, greatest,
            bag(bag).subMap(least, true, greatest, true).size(), sum};
        return answers[what];
    }

    public String shares(int bag, int many) {
        bag(bag);
        range(many, 1, 20);
        List<String> parts = new ArrayList<>();
        for (int one = 0; one < many; one++) {
            parts.add(share(bag, many, one, 0) == 0 ? "-" : "" + share(bag, many, one, 1));
        }
        return String.join(" ", parts);
    }

    public boolean isIn(int one, int other) {
        bag(one);
        bag(other);
        for (int n : eitherOf(one, other)) {
            if (copies(one, n) > copies(other, n)) {
                return false;
            }
        }
        return true;
    }

    public boolean isSame(int one, int other) {
        return bag(one).equals(bag(other));
    }

    public long distance(int one, int other) {
        return sum(both(one, other, 4));
    }

    public long would(int one, int other, int how, boolean isKinds) {
        bag(one);
        bag(other);
        range(how, 0, 4);
        TreeMap<Integer, Long> then = both(one, other, how);
        return isKinds ? then.size() : sum(then);
    }

    public String text(int bag, boolean isFalling) {
        List<String> parts = new ArrayList<>();
        for (Map.Entry<Integer, Integer> e : bag(bag).entrySet()) {
            parts.add(isFalling ? 0 : parts.size(), e.getKey() + "x" + e.getValue());
        }
        return String.join(" ", parts);
    }

    public boolean hasCount(int bag, int count) {
        bag(bag);
        range(count, 1, 1000000);
        return new TreeSet<>(bag(bag).values()).contains(count);
    }

    public int books(int what) {
        range(what, 0, 3);
        return what == 0 ? lapses : what == 1 ? knocks : what == 2 ? lastMember : lastCount;
    }

    public int knock() {
        return ++knocks;
    }

    /** What keeps to its words is sound at any time; the words that follow from the others are not computed. */
    public boolean isSound() {
        return true;
    }

    public long digest() {
        List<Long> row = new ArrayList<>();
        for (int bag = 0; bag < 4; bag++) {
            for (int what = 0; what <= 10; what++) {
                row.add(ofBag(bag, what));
            }
            for (int what = 0; what <= 4; what++) {
                row.add(ofLens(bag, what));
            }
            for (int one = 0; one < 3; one++) {
                for (int what = 0; what <= 4; what++) {
                    row.add(share(bag, 3, one, what));
                }
            }
            row.add((long) text(bag, false).length());
            row.add((long) shares(bag, 4).length());
        }
        for (int one = 0; one < 4; one++) {
            for (int other = one + 1; other < 4; other++) {
                row.add(distance(one, other));
                for (int how = 0; how <= 4; how++) {
                    row.add(would(one, other, how, false));
                }
                row.add(isIn(one, other) ? 1L : 0L);
            }
        }
        for (int what = 0; what <= 4; what++) {
            row.add((long) ofWalk(what));
        }
        for (int what = 0; what <= 9; what++) {
            row.add((long) ofWindow(what));
        }
        row.add((long) halves().length());
        for (int what = 0; what <= 3; what++) {
            row.add((long) books(what));
        }
        row.add(isSound() ? 1L : 0L);
        long d = 58511;
        for (long v : row) {
            d = d * 31 + v;
        }
        return d;
    }
}
