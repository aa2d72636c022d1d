/** Four bags in which a number may lie many times, and a window of the latest numbers that came. */
public final class Bags {
    private static final int NONE = -9999;
    private static final int LAPSE = -9;
    private static final int LEAST_NUMBER = -999;
    private static final int GREATEST_NUMBER = 999;
    private static final int MOST_KINDS = 40;
    private static final int MOST_COPIES = 1000000;
    private static final int MOST_CHANGES = 1000000;
    private static final int MOST_STEP = 999;
    private static final int MOST_TIMES = 1000;
    private static final int MOST_SHARES = 20;
    private static final int MOST_VALUES = 30;
    private static final int FIRST_LENGTH = 9;
    /** Two full bags that have no member in common; no change makes more on its way. */
    private static final int ROOM = 2 * MOST_KINDS;
    private static final int BAGS = 4;
    private static final int NO_BAG = -1;
    private static final int NO_FORM = -1;
    private static final int SUM = 0;
    private static final int JOIN = 1;
    private static final int MEET = 2;
    private static final int LESS = 3;
    private static final int APART = 4;

    private final Bag bag0 = new Bag();
    private final Bag bag1 = new Bag();
    private final Bag bag2 = new Bag();
    private final Bag bag3 = new Bag();
    private final Lens lens0 = new Lens();
    private final Lens lens1 = new Lens();
    private final Lens lens2 = new Lens();
    private final Lens lens3 = new Lens();
    private final Window values = new Window();
    /** What a bag would be behind a change; it is no part of what the object knows. */
    private final Bag draft = new Bag();
    /** Two bags side by side; no part of what the object knows either. */
    private final Pairing pairing = new Pairing();
    /** The text that is being written, kept so that a text's length costs no text. */
    private final StringBuilder page = new StringBuilder();
    private int walkBag = NO_BAG;
    private int walkSeen = 0;
    private int lastMember = NONE;
    private int lastCount = 0;
    private int lapses = 0;
    private int knocks = 0;

    public Bags() {
    }

    // ---- changes of a bag

    public int put(int bag, int member, int count)
        throws IndexOutOfBoundsException, IllegalArgumentException, IllegalStateException {
        Bag changed = bagOf(bag);
        needNumber(member);
        needWithin(count, 1, MOST_COPIES);
        int now = putInto(changed, member, count);
        endWalk(bag);
        return now;
    }

    public int take(int bag, int member, int count)
        throws IndexOutOfBoundsException, IllegalArgumentException {
        Bag changed = bagOf(bag);
        needNumber(member);
        needWithin(count, 1, MOST_COPIES);
        int taken = Math.min(count, changed.copiesOf(member));
        changed.addCopies(member, -taken);
        endWalk(bag);
        return taken;
    }

    public int tell(int bag, int member, int count)
        throws IndexOutOfBoundsException, IllegalArgumentException, IllegalStateException {
        Bag changed = bagOf(bag);
        needNumber(member);
        needWithin(count, 0, MOST_COPIES);
        needRoom(changed, member, count);
        int before = changed.copiesOf(member);
        changed.setCopies(member, count);
        endWalk(bag);
        return before;
    }

    public int place(int bag, int member, int count, boolean isFresh)
        throws IndexOutOfBoundsException, IllegalArgumentException, IllegalStateException {
        Bag changed = bagOf(bag);
        needNumber(member);
        needWithin(count, 1, MOST_COPIES);
        int before = changed.copiesOf(member);
        if (isFresh == (before == 0)) {
            needRoom(changed, member, count);
            changed.setCopies(member, count);
        }
        endWalk(bag);
        return before;
    }

    public boolean swap(int bag, int member, int was, int count)
        throws IndexOutOfBoundsException, IllegalArgumentException {
        Bag changed = bagOf(bag);
        needNumber(member);
        needWithin(was, 1, MOST_COPIES);
        needWithin(count, 1, MOST_COPIES);
        boolean isSo = changed.copiesOf(member) == was;
        if (isSo) {
            changed.setCopies(member, count);
        }
        endWalk(bag);
        return isSo;
    }

    public int poll(int bag, boolean isGreatest) throws IndexOutOfBoundsException {
        Bag changed = bagOf(bag);
        int count = pollAt(changed, changed.endSpot(isGreatest));
        endWalk(bag);
        return count;
    }

    public int pick(int bag, boolean isGreatest) throws IndexOutOfBoundsException {
        Bag changed = bagOf(bag);
        int member = changed.pickAt(changed.endSpot(isGreatest));
        endWalk(bag);
        return member;
    }

    public long clear(int bag) throws IndexOutOfBoundsException {
        Bag changed = bagOf(bag);
        long before = changed.size();
        changed.empty();
        endWalk(bag);
        return before;
    }

    public int fill(int bag, int from, int to, int step, int count)
        throws IndexOutOfBoundsException, IllegalArgumentException, IllegalStateException {
        Bag changed = bagOf(bag);
        needNumber(from);
        needNumber(to);
        needWithin(step, 1, MOST_STEP);
        needWithin(count, 1, MOST_COPIES);
        int numbers = numbersBetween(from, to, step);
        // So many numbers alone overfill any bag, and the draft has no room for them.
        if (numbers > MOST_KINDS) {
            throw new IllegalStateException("the bag would be overfull");
        }
        draft.become(changed);
        for (int i = 0; i < numbers; i++) {
            draft.addCopies(from + i * step, count);
        }
        adoptDraft(changed);
        endWalk(bag);
        return numbers;
    }

    public long copy(int from, int to) throws IndexOutOfBoundsException {
        Bag copied = bagOf(from);
        Bag changed = bagOf(to);
        changed.become(copied);
        endWalk(to);
        return changed.size();
    }

    public long combine(int one, int other, int to, int how)
        throws IndexOutOfBoundsException, IllegalArgumentException, IllegalStateException {
        Bag mine = bagOf(one);
        Bag its = bagOf(other);
        Bag changed = bagOf(to);
        needWithin(how, SUM, APART);
        pairing.lay(mine, its);
        pairing.giveTo(draft, how);
        adoptDraft(changed);
        endWalk(to);
        return changed.size();
    }

    public int sift(int bag, int other, boolean isKeep)
        throws IndexOutOfBoundsException, IllegalArgumentException {
        Bag changed = bagOf(bag);
        Bag its = bagOf(other);
        if (bag == other) {
            throw new IllegalArgumentException("both bags are the same");
        }
        draft.empty();
        for (int i = 0; i < changed.kinds; i++) {
            if (isKeep == (its.copiesOf(changed.memberAt(i)) > 0)) {
                draft.append(changed.memberAt(i), changed.countAt(i));
            }
        }
        return keepDraft(bag);
    }

    public int purge(int bag, int count) throws IndexOutOfBoundsException, IllegalArgumentException {
        Bag changed = bagOf(bag);
        needWithin(count, 1, MOST_COPIES);
        draft.empty();
        for (int i = 0; i < changed.kinds; i++) {
            if (changed.countAt(i) != count) {
                draft.append(changed.memberAt(i), changed.countAt(i));
            }
        }
        return keepDraft(bag);
    }

    public int thin(int bag, int by) throws IndexOutOfBoundsException, IllegalArgumentException {
        Bag changed = bagOf(bag);
        needWithin(by, 2, MOST_TIMES);
        draft.empty();
        for (int i = 0; i < changed.kinds; i++) {
            draft.append(changed.memberAt(i), (int) quotient(changed.countAt(i), by));
        }
        return keepDraft(bag);
    }

    public long grow(int bag, int by)
        throws IndexOutOfBoundsException, IllegalArgumentException, IllegalStateException {
        Bag changed = bagOf(bag);
        needWithin(by, 2, MOST_TIMES);
        draft.empty();
        for (int i = 0; i < changed.kinds; i++) {
            draft.append(changed.memberAt(i), changed.countAt(i) * by);
        }
        adoptDraft(changed);
        endWalk(bag);
        return changed.size();
    }

    public int shift(int bag, int by)
        throws IndexOutOfBoundsException, IllegalArgumentException, IllegalStateException {
        Bag changed = bagOf(bag);
        needNumber(by);
        if (changed.kinds > 0 && !canShift(changed, by)) {
            throw new IllegalStateException("a member would not be -999 to 999");
        }
        draft.empty();
        for (int i = 0; i < changed.kinds; i++) {
            draft.append(changed.memberAt(i) + by, changed.countAt(i));
        }
        changed.become(draft);
        endWalk(bag);
        return changed.memberAt(0);
    }

    public int turn(int bag) throws IndexOutOfBoundsException {
        Bag changed = bagOf(bag);
        draft.empty();
        for (int i = changed.kinds - 1; i >= 0; i--) {
            draft.append(-changed.memberAt(i), changed.countAt(i));
        }
        changed.become(draft);
        endWalk(bag);
        return changed.memberAt(0);
    }

    public int mend(int bag, int other, int changes)
        throws IndexOutOfBoundsException, IllegalArgumentException, IllegalStateException {
        Bag changed = bagOf(bag);
        Bag its = bagOf(other);
        needWithin(changes, 1, MOST_CHANGES);
        pairing.lay(changed, its);
        int made = pairing.mendTo(draft, changes);
        adoptDraft(changed);
        endWalk(bag);
        return made;
    }

    // ---- the lens of a bag

    public int lens(int bag, int form, int from, int to)
        throws IndexOutOfBoundsException, IllegalArgumentException {
        Bag seen = bagOf(bag);
        Lens told = lensOf(bag);
        needWithin(form, 0, 2);
        needNumber(from);
        needNumber(to);
        if (form == 0 && from > to) {
            return lapse();
        }
        told.aim(form, from, to);
        return told.kindsOf(seen);
    }

    public int lensPut(int bag, int member, int count)
        throws IndexOutOfBoundsException, IllegalArgumentException, IllegalStateException {
        Bag changed = bagOf(bag);
        Lens through = lensOf(bag);
        needNumber(member);
        needWithin(count, 1, MOST_COPIES);
        needLens(through);
        int answer = through.reaches(member) ? putInto(changed, member, count) : lapse();
        endWalk(bag);
        return answer;
    }

    public int lensTake(int bag, int member)
        throws IndexOutOfBoundsException, IllegalArgumentException, IllegalStateException {
        Bag changed = bagOf(bag);
        Lens through = lensOf(bag);
        needNumber(member);
        needLens(through);
        int taken = through.copiesOf(changed, member);
        changed.addCopies(member, -taken);
        endWalk(bag);
        return taken;
    }

    public int lensPoll(int bag) throws IndexOutOfBoundsException, IllegalStateException {
        Bag changed = bagOf(bag);
        Lens through = lensOf(bag);
        needLens(through);
        int count = through.kindsOf(changed) > 0 ? pollAt(changed, through.firstSpot(changed)) : 0;
        endWalk(bag);
        return count;
    }

    public long lensClear(int bag) throws IndexOutOfBoundsException, IllegalStateException {
        Bag changed = bagOf(bag);
        Lens through = lensOf(bag);
        needLens(through);
        long taken = through.sizeOf(changed);
        draft.empty();
        for (int i = 0; i < changed.kinds; i++) {
            if (!through.reaches(changed.memberAt(i))) {
                draft.append(changed.memberAt(i), changed.countAt(i));
            }
        }
        changed.become(draft);
        endWalk(bag);
        return taken;
    }

    public long ofLens(int bag, int what) throws IndexOutOfBoundsException, IllegalArgumentException {
        Bag seen = bagOf(bag);
        Lens asked = lensOf(bag);
        switch (what) {
            case 0:
                return asked.form;
            case 1:
                return asked.kindsOf(seen);
            case 2:
                return asked.sizeOf(seen);
            case 3:
                return asked.leastOf(seen);
            case 4:
                return asked.greatestOf(seen);
            default:
                throw new IllegalArgumentException("what is not 0 to 4");
        }
    }

    public int lensCount(int bag, int member) throws IndexOutOfBoundsException, IllegalArgumentException {
        Bag seen = bagOf(bag);
        Lens asked = lensOf(bag);
        needNumber(member);
        return asked.copiesOf(seen, member);
    }

    // ---- the walk

    public int walk(int bag) throws IndexOutOfBoundsException {
        Bag walked = bagOf(bag);
        walkBag = bag;
        walkSeen = 0;
        return walked.kinds;
    }

    public int step() throws IllegalStateException {
        needWalk();
        Bag walked = bagOf(walkBag);
        if (walkSeen >= walked.kinds) {
            return NONE;
        }
        walkSeen++;
        return walked.memberAt(walkSeen - 1);
    }

    public int stepSet(int count) throws IllegalArgumentException, IllegalStateException {
        needWithin(count, 1, MOST_COPIES);
        needWalk();
        if (walkSeen == 0) {
            throw new IllegalStateException("the walk stands at no member");
        }
        Bag walked = bagOf(walkBag);
        int before = walked.countAt(walkSeen - 1);
        walked.setCopies(walked.memberAt(walkSeen - 1), count);
        return before;
    }

    public int ofWalk(int what) throws IllegalArgumentException {
        boolean isOn = walkBag != NO_BAG;
        switch (what) {
            case 0:
                return walkBag;
            case 1:
                return isOn ? bagOf(walkBag).memberAt(walkSeen - 1) : NONE;
            case 2:
                return isOn ? bagOf(walkBag).countAt(walkSeen - 1) : 0;
            case 3:
                return walkSeen;
            case 4:
                return isOn && walkSeen < bagOf(walkBag).kinds ? 1 : 0;
            default:
                throw new IllegalArgumentException("what is not 0 to 4");
        }
    }

    // ---- the window

    public int window(int length) throws IllegalArgumentException {
        needWithin(length, 1, MOST_VALUES);
        return values.setLength(length);
    }

    public int flow(int value) throws IllegalArgumentException {
        needNumber(value);
        values.admit(value);
        return values.median();
    }

    public int pour(int bag) throws IndexOutOfBoundsException {
        Bag changed = bagOf(bag);
        int member = changed.pickAt(0);
        if (member != NONE) {
            values.admit(member);
        }
        endWalk(bag);
        return member;
    }

    public boolean leave(int value) throws IllegalArgumentException {
        needNumber(value);
        return values.dropAt(values.spotOf(value)) != NONE;
    }

    public int pull(boolean isLower) {
        int value = isLower ? values.median() : values.upperMedian();
        return values.dropAt(values.spotOf(value));
    }

    public int oldest() {
        return values.dropAt(0);
    }

    public int harvest(int bag) throws IndexOutOfBoundsException, IllegalStateException {
        Bag changed = bagOf(bag);
        int number = values.number;
        draft.become(changed);
        for (int i = 0; i < number; i++) {
            draft.addCopies(values.valueAt(i), 1);
        }
        adoptDraft(changed);
        values.empty();
        endWalk(bag);
        return number;
    }

    public int none() {
        return lapse();
    }

    public int ofWindow(int what) throws IllegalArgumentException {
        switch (what) {
            case 0:
                return values.number;
            case 1:
                return values.length;
            case 2:
                return values.median();
            case 3:
                return values.upperMedian();
            case 4:
                return values.lowerNumber();
            case 5:
                return values.number - values.lowerNumber();
            case 6:
                return values.valueAt(0);
            case 7:
                return values.valueAt(values.number - 1);
            case 8:
                return values.total();
            case 9:
                return values.came;
            default:
                throw new IllegalArgumentException("what is not 0 to 9");
        }
    }

    public int holds(int value) throws IllegalArgumentException {
        needNumber(value);
        return values.ranked.copiesOf(value);
    }

    public String halves() {
        writeHalves();
        return page.toString();
    }

    public int wouldFlow(int value) throws IllegalArgumentException {
        needNumber(value);
        return values.medianWith(value, draft);
    }

    // ---- what is asked of bags

    public long ofBag(int bag, int what) throws IndexOutOfBoundsException, IllegalArgumentException {
        Bag asked = bagOf(bag);
        switch (what) {
            case 0:
                return asked.size();
            case 1:
                return asked.kinds;
            case 2:
                return asked.weight();
            case 3:
                return asked.memberAt(0);
            case 4:
                return asked.memberAt(asked.kinds - 1);
            case 5:
                return asked.countAt(0);
            case 6:
                return asked.countAt(asked.kinds - 1);
            case 7:
                return asked.countAt(asked.modeSpot());
            case 8:
                return asked.memberAt(asked.modeSpot());
            case 9:
                return asked.memberAtPlace((asked.size() - 1) / 2);
            case 10:
                return asked.memberAtPlace(asked.size() / 2);
            default:
                throw new IllegalArgumentException("what is not 0 to 10");
        }
    }

    public int count(int bag, int member) throws IndexOutOfBoundsException, IllegalArgumentException {
        Bag asked = bagOf(bag);
        needNumber(member);
        return asked.copiesOf(member);
    }

    public long rank(int bag, int member) throws IndexOutOfBoundsException, IllegalArgumentException {
        Bag asked = bagOf(bag);
        needNumber(member);
        return asked.copiesBelow(member);
    }

    public int select(int bag, int spot) throws IndexOutOfBoundsException {
        Bag asked = bagOf(bag);
        if (spot < 0 || spot >= asked.size()) {
            throw new IndexOutOfBoundsException("spot is no place of the bag");
        }
        return asked.memberAtPlace(spot);
    }

    public long within(int bag, int from, int to, boolean isKinds)
        throws IndexOutOfBoundsException, IllegalArgumentException {
        Bag asked = bagOf(bag);
        needNumber(from);
        needNumber(to);
        if (from > to) {
            return LAPSE;
        }
        if (isKinds) {
            return asked.spotFrom(to + 1) - asked.spotFrom(from);
        }
        return asked.copiesBelow(to + 1) - asked.copiesBelow(from);
    }

    public int near(int bag, int member, int what)
        throws IndexOutOfBoundsException, IllegalArgumentException {
        Bag asked = bagOf(bag);
        needNumber(member);
        switch (what) {
            case 0:
                return asked.memberAt(asked.spotFrom(member + 1) - 1);
            case 1:
                return asked.memberAt(asked.spotFrom(member));
            case 2:
                return asked.memberAt(asked.spotFrom(member) - 1);
            case 3:
                return asked.memberAt(asked.spotFrom(member + 1));
            default:
                throw new IllegalArgumentException("what is not 0 to 3");
        }
    }

    public long share(int bag, int many, int one, int what)
        throws IndexOutOfBoundsException, IllegalArgumentException {
        Bag asked = bagOf(bag);
        needWithin(many, 1, MOST_SHARES);
        needWithin(one, 0, many - 1);
        needWithin(what, 0, 4);
        long size = asked.size();
        return asked.ofPlaces(shareStart(size, many, one), shareStart(size, many, one + 1), what);
    }

    public String shares(int bag, int many) throws IndexOutOfBoundsException, IllegalArgumentException {
        Bag asked = bagOf(bag);
        needWithin(many, 1, MOST_SHARES);
        writeShares(asked, many);
        return page.toString();
    }

    public boolean isIn(int one, int other) throws IndexOutOfBoundsException {
        layBags(one, other);
        return pairing.kinds(LESS) == 0;
    }

    public boolean isSame(int one, int other) throws IndexOutOfBoundsException {
        layBags(one, other);
        return pairing.kinds(APART) == 0;
    }

    public long distance(int one, int other) throws IndexOutOfBoundsException {
        layBags(one, other);
        return pairing.size(APART);
    }

    public long would(int one, int other, int how, boolean isKinds)
        throws IndexOutOfBoundsException, IllegalArgumentException {
        layBags(one, other);
        needWithin(how, SUM, APART);
        return isKinds ? pairing.kinds(how) : pairing.size(how);
    }

    public String text(int bag, boolean isFalling) throws IndexOutOfBoundsException {
        writeText(bagOf(bag), isFalling);
        return page.toString();
    }

    public boolean hasCount(int bag, int count) throws IndexOutOfBoundsException, IllegalArgumentException {
        Bag asked = bagOf(bag);
        needWithin(count, 1, MOST_COPIES);
        for (int i = 0; i < asked.kinds; i++) {
            if (asked.countAt(i) == count) {
                return true;
            }
        }
        return false;
    }

    public int books(int what) throws IllegalArgumentException {
        switch (what) {
            case 0:
                return lapses;
            case 1:
                return knocks;
            case 2:
                return lastMember;
            case 3:
                return lastCount;
            default:
                throw new IllegalArgumentException("what is not 0 to 3");
        }
    }

    public int knock() {
        knocks++;
        return knocks;
    }

    public boolean isSound() {
        for (int one = 0; one < BAGS; one++) {
            if (!isBagSound(bagOf(one))) {
                return false;
            }
            for (int other = one + 1; other < BAGS; other++) {
                if (!isPairSound(one, other)) {
                    return false;
                }
            }
        }
        return values.isMiddleSound() && isWalkSound();
    }

    public long digest() {
        long d = 58511;
        for (int bag = 0; bag < BAGS; bag++) {
            d = digestOfBag(d, bag);
        }
        for (int one = 0; one < BAGS; one++) {
            for (int other = one + 1; other < BAGS; other++) {
                d = digestOfPair(d, one, other);
            }
        }
        for (int what = 0; what <= 4; what++) {
            d = mix(d, ofWalk(what));
        }
        for (int what = 0; what <= 9; what++) {
            d = mix(d, ofWindow(what));
        }
        writeHalves();
        d = mix(d, page.length());
        for (int what = 0; what <= 3; what++) {
            d = mix(d, books(what));
        }
        return mix(d, isSound() ? 1 : 0);
    }

    // ---- what must be so, before anything is done

    private Bag bagOf(int bag) {
        switch (bag) {
            case 0:
                return bag0;
            case 1:
                return bag1;
            case 2:
                return bag2;
            case 3:
                return bag3;
            default:
                throw new IndexOutOfBoundsException("a bag is 0 to 3");
        }
    }

    private Lens lensOf(int bag) {
        switch (bag) {
            case 0:
                return lens0;
            case 1:
                return lens1;
            case 2:
                return lens2;
            case 3:
                return lens3;
            default:
                throw new IndexOutOfBoundsException("a bag is 0 to 3");
        }
    }

    private static void needNumber(int number) {
        needWithin(number, LEAST_NUMBER, GREATEST_NUMBER);
    }

    private static void needWithin(int told, int least, int greatest) {
        if (told < least || told > greatest) {
            throw new IllegalArgumentException("what is told is not within its bounds");
        }
    }

    private static void needRoom(Bag bag, int member, int count) {
        if (bag.wouldBeOverfull(member, count)) {
            throw new IllegalStateException("the bag would be overfull");
        }
    }

    private static void needLens(Lens lens) {
        if (lens.form == NO_FORM) {
            throw new IllegalStateException("the bag has no lens");
        }
    }

    private void needWalk() {
        if (walkBag == NO_BAG) {
            throw new IllegalStateException("there is no walk");
        }
    }

    // ---- parts of the changes

    private static int putInto(Bag changed, int member, int count) {
        int now = changed.copiesOf(member) + count;
        needRoom(changed, member, now);
        changed.setCopies(member, now);
        return now;
    }

    private int pollAt(Bag changed, int spot) {
        int count = changed.countAt(spot);
        if (count > 0) {
            lastMember = changed.memberAt(spot);
            lastCount = count;
            changed.setCopies(lastMember, 0);
        }
        return count;
    }

    private void adoptDraft(Bag changed) {
        if (draft.isOverfull()) {
            throw new IllegalStateException("the bag would be overfull");
        }
        changed.become(draft);
    }

    /** For changes that only take out; answers how many kinds are gone. */
    private int keepDraft(int bag) {
        Bag changed = bagOf(bag);
        int gone = changed.kinds - draft.kinds;
        changed.become(draft);
        endWalk(bag);
        return gone;
    }

    private static boolean canShift(Bag bag, int by) {
        return bag.memberAt(0) + by >= LEAST_NUMBER
            && bag.memberAt(bag.kinds - 1) + by <= GREATEST_NUMBER;
    }

    private static int numbersBetween(int from, int to, int step) {
        return from > to ? 0 : (int) quotient(to - from, step) + 1;
    }

    private void endWalk(int bag) {
        if (walkBag == bag) {
            walkBag = NO_BAG;
            walkSeen = 0;
        }
    }

    private int lapse() {
        lapses++;
        return LAPSE;
    }

    // ---- parts of what is asked

    private static long quotient(long what, long by) {
        return by == 0 ? 0 : what / by;
    }

    private static long shareStart(long size, int many, int one) {
        return quotient(size * one, many);
    }

    private void layBags(int one, int other) {
        Bag mine = bagOf(one);
        Bag its = bagOf(other);
        pairing.lay(mine, its);
    }

    private void writeText(Bag bag, boolean isFalling) {
        page.setLength(0);
        for (int n = 0; n < bag.kinds; n++) {
            int spot = isFalling ? bag.kinds - 1 - n : n;
            if (n > 0) {
                page.append(' ');
            }
            page.append(bag.memberAt(spot));
            page.append('x');
            page.append(bag.countAt(spot));
        }
    }

    private void writeShares(Bag bag, int many) {
        page.setLength(0);
        long size = bag.size();
        for (int one = 0; one < many; one++) {
            if (one > 0) {
                page.append(' ');
            }
            long start = shareStart(size, many, one);
            if (start < shareStart(size, many, one + 1)) {
                page.append(bag.memberAtPlace(start));
            } else {
                page.append('-');
            }
        }
    }

    private void writeHalves() {
        page.setLength(0);
        int lower = values.lowerNumber();
        for (int place = lower - 1; place >= 0; place--) {
            page.append(values.ranked.memberAtPlace(place));
            if (place > 0) {
                page.append(',');
            }
        }
        page.append('|');
        for (int place = lower; place < values.number; place++) {
            if (place > lower) {
                page.append(',');
            }
            page.append(values.ranked.memberAtPlace(place));
        }
    }

    private static boolean isBagSound(Bag bag) {
        long size = bag.size();
        for (int i = 0; i < bag.kinds; i++) {
            int member = bag.memberAt(i);
            if (bag.memberAtPlace(bag.copiesBelow(member)) != member) {
                return false;
            }
        }
        boolean arePlacesSound = size == 0
            || isPlaceSound(bag, 0) && isPlaceSound(bag, size / 2) && isPlaceSound(bag, size - 1);
        return arePlacesSound && isPollingSound(bag) && !bag.isOverfull();
    }

    private static boolean isPlaceSound(Bag bag, long place) {
        int member = bag.memberAtPlace(place);
        long rank = bag.copiesBelow(member);
        return rank <= place && rank > place - bag.copiesOf(member);
    }

    private static boolean isPollingSound(Bag bag) {
        long polled = 0;
        int before = NONE;
        for (int i = 0; i < bag.kinds; i++) {
            if (bag.memberAt(i) <= before) {
                return false;
            }
            before = bag.memberAt(i);
            polled += bag.countAt(i);
        }
        return polled == bag.size();
    }

    private boolean isPairSound(int one, int other) {
        boolean areInEachOther = isIn(other, one) && isIn(one, other);
        layBags(one, other);
        long distance = pairing.size(APART);
        long join = pairing.size(JOIN);
        long meet = pairing.size(MEET);
        return join + meet == pairing.size(SUM)
            && distance == join - meet
            && areInEachOther == (distance == 0);
    }

    private boolean isWalkSound() {
        int at = ofWalk(1);
        return at == NONE || bagOf(walkBag).copiesOf(at) > 0;
    }

    private long digestOfBag(long start, int bag) {
        long d = start;
        for (int what = 0; what <= 10; what++) {
            d = mix(d, ofBag(bag, what));
        }
        for (int what = 0; what <= 4; what++) {
            d = mix(d, ofLens(bag, what));
        }
        for (int one = 0; one < 3; one++) {
            for (int what = 0; what <= 4; what++) {
                d = mix(d, share(bag, 3, one, what));
            }
        }
        writeText(bagOf(bag), false);
        d = mix(d, page.length());
        writeShares(bagOf(bag), 4);
        return mix(d, page.length());
    }

    private long digestOfPair(long start, int one, int other) {
        // Laid once for all the questions: laying is what costs most.
        layBags(one, other);
        long d = mix(start, pairing.size(APART));
        for (int how = SUM; how <= APART; how++) {
            d = mix(d, pairing.size(how));
        }
        return mix(d, pairing.kinds(LESS) == 0 ? 1 : 0);
    }

    private static long mix(long d, long v) {
        return d * 31 + v;
    }

    /** A bag: its members by rising numbers, each with its count at the same spot of another row. */
    private static final class Bag {
        private final int[] members = new int[ROOM];
        private final int[] counts = new int[ROOM];
        private int kinds = 0;

        int memberAt(int spot) {
            return spot >= 0 && spot < kinds && spot < members.length ? members[spot] : NONE;
        }

        int countAt(int spot) {
            return spot >= 0 && spot < kinds && spot < counts.length ? counts[spot] : 0;
        }

        private void write(int spot, int member, int count) {
            if (spot >= 0 && spot < members.length && spot < counts.length) {
                members[spot] = member;
                counts[spot] = count;
            }
        }

        /** The spot of the first member that is no less; the one behind the last, if there is none. */
        int spotFrom(int number) {
            int from = 0;
            int to = kinds;
            // Each round halves what is left, so that so many rounds are more than enough.
            for (int round = 0; round < ROOM && from < to; round++) {
                int middle = (from + to) / 2;
                if (memberAt(middle) < number) {
                    from = middle + 1;
                } else {
                    to = middle;
                }
            }
            return from;
        }

        int endSpot(boolean isGreatest) {
            return isGreatest ? kinds - 1 : 0;
        }

        int copiesOf(int number) {
            int spot = spotFrom(number);
            return memberAt(spot) == number ? countAt(spot) : 0;
        }

        void addCopies(int number, int by) {
            setCopies(number, copiesOf(number) + by);
        }

        void setCopies(int number, int count) {
            int spot = spotFrom(number);
            boolean isMember = spot < kinds && memberAt(spot) == number;
            if (isMember && count > 0) {
                write(spot, number, count);
            } else if (isMember) {
                closeGap(spot);
            } else if (count > 0 && kinds < members.length) {
                openGap(spot);
                write(spot, number, count);
            }
        }

        private void closeGap(int spot) {
            for (int i = spot; i < kinds - 1; i++) {
                write(i, memberAt(i + 1), countAt(i + 1));
            }
            kinds--;
        }

        private void openGap(int spot) {
            kinds++;
            for (int i = kinds - 1; i > spot; i--) {
                write(i, memberAt(i - 1), countAt(i - 1));
            }
        }

        /** Puts a number behind all members, which are less; without copies it is none. */
        void append(int number, int count) {
            if (count > 0 && kinds < members.length) {
                write(kinds, number, count);
                kinds++;
            }
        }

        int pickAt(int spot) {
            int member = memberAt(spot);
            if (member != NONE) {
                addCopies(member, -1);
            }
            return member;
        }

        void empty() {
            kinds = 0;
        }

        void become(Bag other) {
            for (int i = 0; i < other.kinds; i++) {
                write(i, other.memberAt(i), other.countAt(i));
            }
            kinds = other.kinds;
        }

        boolean wouldBeOverfull(int number, int count) {
            boolean isFresh = count > 0 && copiesOf(number) == 0;
            return count > MOST_COPIES || isFresh && kinds >= MOST_KINDS;
        }

        boolean isOverfull() {
            return kinds > MOST_KINDS || countAt(modeSpot()) > MOST_COPIES;
        }

        long size() {
            return copiesAhead(kinds);
        }

        long weight() {
            long sum = 0;
            for (int i = 0; i < kinds; i++) {
                sum += (long) memberAt(i) * countAt(i);
            }
            return sum;
        }

        int modeSpot() {
            int most = 0;
            for (int i = 1; i < kinds; i++) {
                if (countAt(i) > countAt(most)) {
                    most = i;
                }
            }
            return most;
        }

        private long copiesAhead(int spot) {
            long copies = 0;
            for (int i = 0; i < spot && i < counts.length; i++) {
                copies += counts[i];
            }
            return copies;
        }

        long copiesBelow(int number) {
            return copiesAhead(spotFrom(number));
        }

        int memberAtPlace(long place) {
            long left = place;
            for (int i = 0; i < kinds && i < counts.length; i++) {
                left -= counts[i];
                if (left < 0) {
                    return memberAt(i);
                }
            }
            return NONE;
        }

        /** What is told of the copies at the places from start on, up to the one ahead of end. */
        long ofPlaces(long start, long end, int what) {
            int least = NONE;
            int greatest = NONE;
            int touched = 0;
            long sum = 0;
            long passed = 0;
            for (int i = 0; i < kinds; i++) {
                long next = passed + countAt(i);
                long here = Math.min(end, next) - Math.max(start, passed);
                if (here > 0) {
                    least = touched == 0 ? memberAt(i) : least;
                    greatest = memberAt(i);
                    touched++;
                    sum += here * memberAt(i);
                }
                passed = next;
            }
            switch (what) {
                case 0:
                    return end - start;
                case 1:
                    return least;
                case 2:
                    return greatest;
                case 3:
                    return touched;
                default:
                    return sum;
            }
        }
    }

    /** Which numbers of its bag may be seen and touched; none, till it is aimed. The bag itself is told each time. */
    private static final class Lens {
        private int form = NO_FORM;
        /** The reach has the numbers from low on, up to the one ahead of end. */
        private int low = 0;
        private int end = 0;

        void aim(int newForm, int from, int to) {
            form = newForm;
            switch (newForm) {
                case 0:
                    low = from;
                    end = to;
                    break;
                case 1:
                    low = LEAST_NUMBER;
                    end = to + 1;
                    break;
                default:
                    low = from + 1;
                    end = GREATEST_NUMBER + 1;
                    break;
            }
        }

        boolean reaches(int number) {
            return number >= low && number < end;
        }

        int firstSpot(Bag bag) {
            return bag.spotFrom(low);
        }

        private int endSpot(Bag bag) {
            return bag.spotFrom(end);
        }

        int kindsOf(Bag bag) {
            return endSpot(bag) - firstSpot(bag);
        }

        long sizeOf(Bag bag) {
            return bag.copiesBelow(end) - bag.copiesBelow(low);
        }

        int leastOf(Bag bag) {
            int spot = firstSpot(bag);
            return spot < endSpot(bag) ? bag.memberAt(spot) : NONE;
        }

        int greatestOf(Bag bag) {
            int spot = endSpot(bag) - 1;
            return spot >= firstSpot(bag) ? bag.memberAt(spot) : NONE;
        }

        int copiesOf(Bag bag, int number) {
            return reaches(number) ? bag.copiesOf(number) : 0;
        }
    }

    /** Two bags side by side: each number that is a member of either, with its count in both. */
    private static final class Pairing {
        private final int[] numbers = new int[ROOM];
        private final int[] ones = new int[ROOM];
        private final int[] others = new int[ROOM];
        private int length = 0;

        void lay(Bag one, Bag other) {
            int i = 0;
            int j = 0;
            length = 0;
            for (int n = 0; n < ROOM && (i < one.kinds || j < other.kinds); n++) {
                boolean isOnes = i < one.kinds
                    && (j >= other.kinds || one.memberAt(i) <= other.memberAt(j));
                boolean isOthers = j < other.kinds
                    && (i >= one.kinds || other.memberAt(j) <= one.memberAt(i));
                int number = isOnes ? one.memberAt(i) : other.memberAt(j);
                append(number, isOnes ? one.countAt(i) : 0, isOthers ? other.countAt(j) : 0);
                i += isOnes ? 1 : 0;
                j += isOthers ? 1 : 0;
            }
        }

        private void append(int number, int inOne, int inOther) {
            if (length >= 0 && length < numbers.length && length < ones.length && length < others.length) {
                numbers[length] = number;
                ones[length] = inOne;
                others[length] = inOther;
                length++;
            }
        }

        private static int at(int[] row, int spot) {
            return spot >= 0 && spot < row.length ? row[spot] : 0;
        }

        private int blend(int spot, int how) {
            int inOne = at(ones, spot);
            int inOther = at(others, spot);
            switch (how) {
                case SUM:
                    return inOne + inOther;
                case JOIN:
                    return Math.max(inOne, inOther);
                case MEET:
                    return Math.min(inOne, inOther);
                case LESS:
                    return Math.max(inOne - inOther, 0);
                default:
                    return Math.abs(inOne - inOther);
            }
        }

        long size(int how) {
            long copies = 0;
            for (int i = 0; i < length; i++) {
                copies += blend(i, how);
            }
            return copies;
        }

        int kinds(int how) {
            int some = 0;
            for (int i = 0; i < length; i++) {
                if (blend(i, how) > 0) {
                    some++;
                }
            }
            return some;
        }

        void giveTo(Bag target, int how) {
            target.empty();
            for (int i = 0; i < length; i++) {
                target.append(at(numbers, i), blend(i, how));
            }
        }

        /** Makes of the target the first bag mended towards the other one; answers how many changes it took. */
        int mendTo(Bag target, int changes) {
            int left = changes;
            target.empty();
            for (int i = 0; i < length; i++) {
                int inOne = at(ones, i);
                int by = Math.min(blend(i, APART), left);
                target.append(at(numbers, i), inOne < at(others, i) ? inOne + by : inOne - by);
                left -= by;
            }
            return changes - left;
        }
    }

    /** The latest values, both as they came and ranked as a bag. */
    private static final class Window {
        private final int[] row = new int[MOST_VALUES];
        private final Bag ranked = new Bag();
        private int number = 0;
        private int length = FIRST_LENGTH;
        private int came = 0;

        int valueAt(int spot) {
            return spot >= 0 && spot < number && spot < row.length ? row[spot] : NONE;
        }

        private void write(int spot, int value) {
            if (spot >= 0 && spot < row.length) {
                row[spot] = value;
            }
        }

        /** The spot of the oldest value that is like it; -1, if there is none. */
        int spotOf(int value) {
            for (int spot = 0; spot < number; spot++) {
                if (valueAt(spot) == value) {
                    return spot;
                }
            }
            return -1;
        }

        int dropAt(int spot) {
            int value = valueAt(spot);
            if (value == NONE) {
                return NONE;
            }
            for (int i = spot; i < number - 1; i++) {
                write(i, valueAt(i + 1));
            }
            number--;
            ranked.addCopies(value, -1);
            return value;
        }

        int setLength(int newLength) {
            int tooMany = Math.max(number - newLength, 0);
            for (int i = 0; i < tooMany; i++) {
                dropAt(0);
            }
            length = newLength;
            return tooMany;
        }

        void admit(int value) {
            if (number >= length) {
                dropAt(0);
            }
            write(number, value);
            number++;
            ranked.addCopies(value, 1);
            came++;
        }

        void empty() {
            number = 0;
            ranked.empty();
        }

        int lowerNumber() {
            return (number + 1) / 2;
        }

        int median() {
            return ranked.memberAtPlace(lowerNumber() - 1);
        }

        int upperMedian() {
            return ranked.memberAtPlace(lowerNumber());
        }

        int medianWith(int value, Bag trial) {
            int then = number + 1;
            trial.become(ranked);
            if (number >= length) {
                trial.addCopies(valueAt(0), -1);
                then = number;
            }
            trial.addCopies(value, 1);
            return trial.memberAtPlace((then - 1) / 2);
        }

        int total() {
            int sum = 0;
            for (int i = 0; i < number; i++) {
                sum += valueAt(i);
            }
            return sum;
        }

        /** Looks at the values as they came, so that the ranked ones are held against them. */
        boolean isMiddleSound() {
            int median = median();
            int less = 0;
            int like = 0;
            for (int i = 0; i < number; i++) {
                less += valueAt(i) < median ? 1 : 0;
                like += valueAt(i) == median ? 1 : 0;
            }
            int place = (number - 1) / 2;
            boolean isMiddle = number == 0 ? median == NONE : less <= place && less + like > place;
            return isMiddle && number <= length;
        }
    }
}
