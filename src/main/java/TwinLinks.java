import java.util.NoSuchElementException;

/**
 * A house of OBJECTS and of LINKS that are told on both sides; ../shared/DOC.md says what it promises.
 *
 * <p>Inside, an OBJECT stands in a slot 0 .. 99 while it is there: slots are used again, NUMBERS never.
 */
public final class TwinLinks {
    private static final int MAX_OBJECTS = 100;
    private static final int MAX_LINKS = 10;
    private static final int MAX_ROW = 12;
    private static final int MAX_LEVELS = 12;
    private static final int KINDS = 10;
    private static final int FORMS = 3;
    private static final int RULES = 3;
    private static final int SIDES = 2;
    private static final int QUESTIONS = 6;
    private static final int COUNTS = 6;
    private static final int ONE_TO_ONE = 0;
    private static final int MANY_TO_MANY = 2;
    private static final int OWNS = 1;
    private static final int BARS = 2;
    private static final int AT_END = -1;
    private static final int NONE = -1;

    private final Told told;
    private final Trail trail;
    private final Walk walk;
    private final Leaving leaving;
    private final Twins twins;
    private final Groups groups;
    private final House[] saved;
    private House house;
    private int given;
    private int levels;

    public TwinLinks() {
        told = new Told();
        trail = new Trail();
        walk = new Walk(told);
        leaving = new Leaving(told, walk);
        twins = new Twins(told, walk);
        groups = new Groups(told);
        saved = new House[MAX_LEVELS];
        house = new House();
    }

    public int link(int a, int b, int form, int rule) throws IllegalArgumentException, IllegalStateException {
        needBelow(a, KINDS);
        needBelow(b, KINDS);
        needBelow(form, FORMS);
        needBelow(rule, RULES);
        if (told.howMany() >= MAX_LINKS) {
            throw new IllegalStateException("no room for a link");
        }
        return told.tell(a, b, form, rule);
    }

    public int make(int kind) throws IllegalArgumentException, IllegalStateException {
        needBelow(kind, KINDS);
        if (house.objects() >= MAX_OBJECTS) {
            throw new IllegalStateException("no room for an object");
        }
        int number = given;
        given++;
        house.admit(number, kind);
        return number;
    }

    public int set(int l, int x, int y, int i) throws IllegalArgumentException, NoSuchElementException,
            ClassCastException, UnsupportedOperationException, IndexOutOfBoundsException, IllegalStateException {
        needLink(l);
        if (i < AT_END) {
            throw new IllegalArgumentException("place out of range");
        }
        int haver = slotThere(x);
        int part = slotThere(y);
        needKind(haver, told.fromKind(l));
        needKind(part, told.toKind(l));
        if (house.isJoined(l, haver, part)) {
            moveInRow(l, haver, part, i);
        } else if (told.hasRule(l, OWNS) && walk.findWay(house, part, haver, trail)) {
            throw new UnsupportedOperationException("an object would be under itself");
        } else {
            joinNew(l, haver, part, i);
        }
        return house.has().lengthOf(l, haver);
    }

    public int cut(int l, int x, int y) throws IllegalArgumentException, NoSuchElementException, ClassCastException {
        needLink(l);
        int haver = slotThere(x);
        int part = slotThere(y);
        needKind(haver, told.fromKind(l));
        needKind(part, told.toKind(l));
        return house.separate(l, haver, part) ? 1 : 0;
    }

    public int drop(int x) throws NoSuchElementException, IllegalStateException {
        int slot = slotThere(x);
        leaving.gather(house, slot);
        int barrer = leaving.firstBarred(house, slot);
        if (barrer != NONE) {
            walk.findWay(house, slot, barrer, trail);
            trail.add(house.numberOf(leaving.leastBar(house, barrer)));
            throw new IllegalStateException("a link bars the drop");
        }
        return leaving.removeAll(house);
    }

    public int copy(int x) throws NoSuchElementException, IllegalStateException {
        int slot = slotThere(x);
        twins.gather(house, slot);
        if (!twins.fit(house)) {
            throw new IllegalStateException("no room for the copy");
        }
        given = twins.build(house, given);
        return house.numberOf(twins.twinOf(slot));
    }

    public boolean alike(int x, int y) throws NoSuchElementException {
        int first = slotThere(x);
        int second = slotThere(y);
        return groups.match(house, first, second);
    }

    public int at(int l, int x, int i) throws IllegalArgumentException, NoSuchElementException, ClassCastException,
            IndexOutOfBoundsException {
        needLink(l);
        int slot = slotThere(x);
        needKind(slot, told.fromKind(l));
        return numberInRow(house.has(), l, slot, i);
    }

    public int back(int l, int y, int i) throws IllegalArgumentException, NoSuchElementException, ClassCastException,
            IndexOutOfBoundsException {
        needLink(l);
        int slot = slotThere(y);
        needKind(slot, told.toKind(l));
        return numberInRow(house.had(), l, slot, i);
    }

    public int ask(int x, int what) throws IllegalArgumentException, NoSuchElementException {
        needBelow(what, QUESTIONS);
        int slot = slotThere(x);
        switch (what) {
            case 0:
                return house.kindOf(slot);
            case 1:
                return walk.howManyOwning(house.had(), slot);
            case 2:
                return walk.howManyUnder(house, slot);
            case 3:
                return walk.howDeep(house, slot);
            case 4:
                return walk.howManyOwning(house.has(), slot);
            default:
                return walk.howManyNear(house, slot);
        }
    }

    public int size(int l, int x, int side) throws IllegalArgumentException, NoSuchElementException,
            ClassCastException {
        needLink(l);
        needBelow(side, SIDES);
        int slot = slotThere(x);
        needKind(slot, side == 0 ? told.fromKind(l) : told.toKind(l));
        Rows rows = side == 0 ? house.has() : house.had();
        return rows.lengthOf(l, slot);
    }

    public int way(int x, int y) throws NoSuchElementException {
        int from = slotThere(x);
        int to = slotThere(y);
        if (!walk.findWay(house, from, to, trail)) {
            trail.clear();
        }
        return trail.length() - 1;
    }

    public int path(int i) throws IndexOutOfBoundsException {
        if (i < 0 || i >= trail.length()) {
            throw new IndexOutOfBoundsException("no such place in the path");
        }
        return trail.get(i);
    }

    public int begin() throws IllegalStateException {
        if (levels >= MAX_LEVELS) {
            throw new IllegalStateException("no room for a level");
        }
        House before = saved[levels];
        if (before == null) {
            before = new House();
            saved[levels] = before;
        }
        before.takeFrom(house);
        levels++;
        return levels;
    }

    public int end(boolean kept) throws IllegalStateException {
        if (levels <= 0) {
            throw new IllegalStateException("there is no level");
        }
        levels--;
        House before = saved[levels];
        if (!kept && before != null) {
            // The two houses change places, so that the room of the one that is given up serves the next level.
            saved[levels] = house;
            house = before;
        }
        return levels;
    }

    public int count(int what) throws IllegalArgumentException {
        needBelow(what, COUNTS);
        switch (what) {
            case 0:
                return told.howMany();
            case 1:
                return house.objects();
            case 2:
                return given;
            case 3:
                return levels;
            case 4:
                return trail.length();
            default:
                return house.pairs();
        }
    }

    private static void needBelow(int value, int bound) {
        if (value < 0 || value >= bound) {
            throw new IllegalArgumentException("number out of range");
        }
    }

    private void needLink(int l) {
        if (!told.knows(l)) {
            throw new IllegalArgumentException("no such link is told");
        }
    }

    private int slotThere(int number) {
        int slot = house.slotOf(number);
        if (slot == NONE) {
            throw new NoSuchElementException("no such object is there");
        }
        return slot;
    }

    private void needKind(int slot, int kind) {
        if (house.kindOf(slot) != kind) {
            throw new ClassCastException("the link asks for another kind");
        }
    }

    private int numberInRow(Rows rows, int l, int slot, int i) {
        int other = rows.get(l, slot, i);
        if (other == NONE) {
            throw new IndexOutOfBoundsException("no such place in the row");
        }
        return house.numberOf(other);
    }

    private void moveInRow(int l, int haver, int part, int i) {
        int left = house.has().lengthOf(l, haver) - 1;
        if (i > left) {
            throw new IndexOutOfBoundsException("place above the end of the row");
        }
        // The haver came to have it long ago: the row of those that have the part keeps its order.
        house.has().remove(l, haver, part);
        house.has().insert(l, haver, i == AT_END ? left : i, part);
    }

    private void joinNew(int l, int haver, int part, int i) {
        boolean single = told.hasForm(l, ONE_TO_ONE);
        boolean shared = told.hasForm(l, MANY_TO_MANY);
        int left = single ? 0 : house.has().lengthOf(l, haver);
        int leftBehind = shared ? house.had().lengthOf(l, part) : 0;
        if (i > left) {
            throw new IndexOutOfBoundsException("place above the end of the row");
        }
        if (left >= MAX_ROW || leftBehind >= MAX_ROW) {
            throw new IllegalStateException("no room in a row");
        }
        if (single) {
            house.separate(l, haver, house.has().get(l, haver, 0));
        }
        if (!shared) {
            house.separate(l, house.had().get(l, part, 0), part);
        }
        house.join(l, haver, part, i == AT_END ? left : i);
    }

    /** The LINKS. They lie outside the LEVELS: one that is told stays told. */
    private static final class Told {
        private final int[] from;
        private final int[] to;
        private final int[] forms;
        private final int[] rules;
        private int length;

        Told() {
            from = new int[MAX_LINKS];
            to = new int[MAX_LINKS];
            forms = new int[MAX_LINKS];
            rules = new int[MAX_LINKS];
        }

        int howMany() {
            return length;
        }

        boolean knows(int l) {
            return l >= 0 && l < length;
        }

        int tell(int a, int b, int form, int rule) {
            if (length >= MAX_LINKS) {
                return NONE;
            }
            from[length] = a;
            to[length] = b;
            forms[length] = form;
            rules[length] = rule;
            length++;
            return length - 1;
        }

        int fromKind(int l) {
            return knows(l) ? from[l] : NONE;
        }

        int toKind(int l) {
            return knows(l) ? to[l] : NONE;
        }

        boolean hasForm(int l, int form) {
            return knows(l) && forms[l] == form;
        }

        boolean hasRule(int l, int rule) {
            return knows(l) && rules[l] == rule;
        }
    }

    /** PATH. It holds NUMBERS, not slots: it outlives the OBJECTS that it names. */
    private static final class Trail {
        private final int[] numbers;
        private int length;

        Trail() {
            numbers = new int[MAX_OBJECTS];
        }

        int length() {
            return length;
        }

        int get(int i) {
            return i >= 0 && i < length ? numbers[i] : NONE;
        }

        void clear() {
            length = 0;
        }

        void add(int number) {
            if (length < MAX_OBJECTS) {
                numbers[length] = number;
                length++;
            }
        }
    }

    /** A set of slots that remembers the order in which they came, so that it serves as a queue too. */
    private static final class Slots {
        private final boolean[] inside;
        private final int[] list;
        private int length;

        Slots() {
            inside = new boolean[MAX_OBJECTS];
            list = new int[MAX_OBJECTS];
        }

        static boolean isSlot(int slot) {
            return slot >= 0 && slot < MAX_OBJECTS;
        }

        int length() {
            return length;
        }

        int get(int i) {
            return i >= 0 && i < length ? list[i] : NONE;
        }

        boolean holds(int slot) {
            return isSlot(slot) && inside[slot];
        }

        void add(int slot) {
            if (isSlot(slot) && !inside[slot] && length < MAX_OBJECTS) {
                inside[slot] = true;
                list[length] = slot;
                length++;
            }
        }

        void clear() {
            for (int i = 0; i < length; i++) {
                int slot = list[i];
                if (isSlot(slot)) {
                    inside[slot] = false;
                }
            }
            length = 0;
        }
    }

    /** One side of all LINKS: for each LINK and slot a row of slots, packed, so that a saved LEVEL stays small. */
    private static final class Rows {
        private static final int WORDS_PER_ROW = 2;
        private static final int SLOTS_PER_WORD = 6;
        private static final int BITS_PER_SLOT = 8;
        private static final long SLOT_MASK = 255L;

        private final long[] words;
        private final int[] lengths;

        Rows() {
            words = new long[MAX_LINKS * MAX_OBJECTS * WORDS_PER_ROW];
            lengths = new int[MAX_LINKS * MAX_OBJECTS];
        }

        int lengthOf(int l, int slot) {
            return isRow(l, slot) ? lengths[rowOf(l, slot)] : 0;
        }

        int get(int l, int slot, int i) {
            return i >= 0 && i < lengthOf(l, slot) ? read(rowOf(l, slot), i) : NONE;
        }

        boolean holds(int l, int slot, int other) {
            int length = lengthOf(l, slot);
            for (int i = 0; i < length; i++) {
                if (read(rowOf(l, slot), i) == other) {
                    return true;
                }
            }
            return false;
        }

        void addTo(Slots into, int l, int slot) {
            int length = lengthOf(l, slot);
            for (int i = 0; i < length; i++) {
                into.add(read(rowOf(l, slot), i));
            }
        }

        void insert(int l, int slot, int i, int other) {
            if (!isRow(l, slot) || !Slots.isSlot(other)) {
                return;
            }
            int row = rowOf(l, slot);
            int length = lengths[row];
            if (i < 0 || i > length || length >= MAX_ROW) {
                return;
            }
            for (int k = length; k > i; k--) {
                write(row, k, read(row, k - 1));
            }
            write(row, i, other);
            lengths[row] = length + 1;
        }

        void append(int l, int slot, int other) {
            insert(l, slot, lengthOf(l, slot), other);
        }

        boolean remove(int l, int slot, int other) {
            if (!isRow(l, slot)) {
                return false;
            }
            int row = rowOf(l, slot);
            int length = lengths[row];
            int left = 0;
            for (int i = 0; i < length; i++) {
                int each = read(row, i);
                if (each != other) {
                    write(row, left, each);
                    left++;
                }
            }
            lengths[row] = left;
            return left < length;
        }

        void takeFrom(Rows other) {
            System.arraycopy(other.words, 0, words, 0, words.length);
            System.arraycopy(other.lengths, 0, lengths, 0, lengths.length);
        }

        private static boolean isRow(int l, int slot) {
            return l >= 0 && l < MAX_LINKS && slot >= 0 && slot < MAX_OBJECTS;
        }

        private static int rowOf(int l, int slot) {
            return l * MAX_OBJECTS + slot;
        }

        private int read(int row, int i) {
            long word = words[row * WORDS_PER_ROW + i / SLOTS_PER_WORD];
            int shift = i % SLOTS_PER_WORD * BITS_PER_SLOT;
            return (int) (word >>> shift & SLOT_MASK);
        }

        private void write(int row, int i, int slot) {
            int place = row * WORDS_PER_ROW + i / SLOTS_PER_WORD;
            int shift = i % SLOTS_PER_WORD * BITS_PER_SLOT;
            long others = words[place] & ~(SLOT_MASK << shift);
            words[place] = others | (long) slot << shift;
        }
    }

    /** All that a LEVEL takes back: the OBJECTS that are there, and both sides of their rows. */
    private static final class House {
        private final int[] numbers;
        private final int[] kinds;
        private final Rows has;
        private final Rows had;
        private int objects;
        private int pairs;

        House() {
            numbers = new int[MAX_OBJECTS];
            kinds = new int[MAX_OBJECTS];
            has = new Rows();
            had = new Rows();
            for (int slot = 0; slot < MAX_OBJECTS; slot++) {
                numbers[slot] = NONE;
            }
        }

        Rows has() {
            return has;
        }

        Rows had() {
            return had;
        }

        int objects() {
            return objects;
        }

        int pairs() {
            return pairs;
        }

        int slotOf(int number) {
            // An empty slot bears NONE, which a caller may well ask for.
            return number < 0 ? NONE : slotBearing(number);
        }

        int numberOf(int slot) {
            return Slots.isSlot(slot) ? numbers[slot] : NONE;
        }

        int kindOf(int slot) {
            return Slots.isSlot(slot) ? kinds[slot] : NONE;
        }

        int admit(int number, int kind) {
            int slot = slotBearing(NONE);
            if (slot != NONE) {
                numbers[slot] = number;
                kinds[slot] = kind;
                objects++;
            }
            return slot;
        }

        void remove(int slot) {
            if (numberOf(slot) == NONE) {
                return;
            }
            for (int l = 0; l < MAX_LINKS; l++) {
                separateAll(l, slot);
            }
            numbers[slot] = NONE;
            objects--;
        }

        boolean isJoined(int l, int haver, int part) {
            return has.holds(l, haver, part);
        }

        void join(int l, int haver, int part, int i) {
            has.insert(l, haver, i, part);
            had.append(l, part, haver);
            pairs++;
        }

        /** Each side by itself: the two rows of a copy come to be in orders that have nothing to do with each other. */
        void joinHas(int l, int haver, int part) {
            has.append(l, haver, part);
            pairs++;
        }

        void joinHad(int l, int haver, int part) {
            had.append(l, part, haver);
        }

        boolean separate(int l, int haver, int part) {
            if (!has.remove(l, haver, part)) {
                return false;
            }
            had.remove(l, part, haver);
            pairs--;
            return true;
        }

        void takeFrom(House other) {
            System.arraycopy(other.numbers, 0, numbers, 0, MAX_OBJECTS);
            System.arraycopy(other.kinds, 0, kinds, 0, MAX_OBJECTS);
            has.takeFrom(other.has);
            had.takeFrom(other.had);
            objects = other.objects;
            pairs = other.pairs;
        }

        private int slotBearing(int number) {
            for (int slot = 0; slot < MAX_OBJECTS; slot++) {
                if (numbers[slot] == number) {
                    return slot;
                }
            }
            return NONE;
        }

        private void separateAll(int l, int slot) {
            for (int i = has.lengthOf(l, slot) - 1; i >= 0; i--) {
                separate(l, slot, has.get(l, slot, i));
            }
            for (int i = had.lengthOf(l, slot) - 1; i >= 0; i--) {
                separate(l, had.get(l, slot, i), slot);
            }
        }
    }

    /** Walks over what OWNS: down over the rows of what is HAD, up over the rows of those that HAVE. */
    private static final class Walk {
        private final Told told;
        private final int[] steps;
        private Slots reached;
        private Slots spare;

        Walk(Told told) {
            this.told = told;
            steps = new int[MAX_OBJECTS];
            reached = new Slots();
            spare = new Slots();
        }

        void addOwning(Rows side, int slot, Slots into) {
            for (int l = 0; l < told.howMany(); l++) {
                if (told.hasRule(l, OWNS)) {
                    side.addTo(into, l, slot);
                }
            }
        }

        int howManyOwning(Rows side, int slot) {
            reached.clear();
            addOwning(side, slot, reached);
            return reached.length();
        }

        int howManyNear(House house, int slot) {
            reached.clear();
            for (int l = 0; l < told.howMany(); l++) {
                house.has().addTo(reached, l, slot);
                house.had().addTo(reached, l, slot);
            }
            return reached.length();
        }

        int howManyUnder(House house, int slot) {
            return spread(house.has(), slot).length() - 1;
        }

        /** Goes up by whole layers, each slot once a layer: the ways up may be too many to walk one by one. */
        int howDeep(House house, int slot) {
            reached.clear();
            reached.add(slot);
            for (int deep = 0; deep < MAX_OBJECTS; deep++) {
                spare.clear();
                for (int i = 0; i < reached.length(); i++) {
                    addOwning(house.had(), reached.get(i), spare);
                }
                if (spare.length() == 0) {
                    return deep;
                }
                Slots layer = spare;
                spare = reached;
                reached = layer;
            }
            return MAX_OBJECTS;
        }

        /** What can be reached, the start itself first, nearest before farther; stepsTo then tells how far each is. */
        Slots spread(Rows side, int start) {
            reached.clear();
            reached.add(start);
            noteSteps(0, 0);
            for (int head = 0; head < reached.length() && head < MAX_OBJECTS; head++) {
                int slot = reached.get(head);
                int known = reached.length();
                addOwning(side, slot, reached);
                noteSteps(known, stepsTo(slot) + 1);
            }
            return reached;
        }

        int stepsTo(int slot) {
            return reached.holds(slot) ? steps[slot] : NONE;
        }

        /** Writes the least shortest way down into the trail, or leaves the trail alone if there is none. */
        boolean findWay(House house, int from, int to, Trail trail) {
            // From the far end, so that each slot knows how far it still has to go.
            spread(house.had(), to);
            if (!reached.holds(from)) {
                return false;
            }
            trail.clear();
            trail.add(house.numberOf(from));
            int slot = from;
            for (int left = stepsTo(from) - 1; left >= 0; left--) {
                slot = leastStep(house, slot, left);
                trail.add(house.numberOf(slot));
            }
            return true;
        }

        private int leastStep(House house, int slot, int left) {
            spare.clear();
            addOwning(house.has(), slot, spare);
            int least = NONE;
            for (int i = 0; i < spare.length(); i++) {
                int next = spare.get(i);
                boolean nearer = stepsTo(next) == left;
                if (nearer && (least == NONE || house.numberOf(next) < house.numberOf(least))) {
                    least = next;
                }
            }
            return least;
        }

        private void noteSteps(int first, int far) {
            for (int i = first; i < reached.length(); i++) {
                int slot = reached.get(i);
                if (Slots.isSlot(slot)) {
                    steps[slot] = far;
                }
            }
        }
    }

    /** A drop: GONE, and what bars it. */
    private static final class Leaving {
        private final Told told;
        private final Walk walk;
        private final Slots gone;
        private final Slots parts;
        private final Slots owners;

        Leaving(Told told, Walk walk) {
            this.told = told;
            this.walk = walk;
            gone = new Slots();
            parts = new Slots();
            owners = new Slots();
        }

        void gather(House house, int start) {
            gone.clear();
            gone.add(start);
            // A part is looked at again behind each of its owners, so the last owner that goes takes it along.
            for (int head = 0; head < gone.length() && head < MAX_OBJECTS; head++) {
                parts.clear();
                walk.addOwning(house.has(), gone.get(head), parts);
                addThoseWithoutOwner(house);
            }
        }

        /** The slot of GONE that HAS, by a LINK that BARS, what is not GONE: the nearest, then the least. */
        int firstBarred(House house, int start) {
            // All owners of what is GONE are GONE, but those of the start: no shortest way leaves GONE.
            Slots near = walk.spread(house.has(), start);
            int first = NONE;
            for (int i = 0; i < near.length(); i++) {
                int slot = near.get(i);
                boolean barred = gone.holds(slot) && leastBar(house, slot) != NONE;
                if (barred && (first == NONE || isBefore(house, slot, first))) {
                    first = slot;
                }
            }
            return first;
        }

        int leastBar(House house, int slot) {
            int least = NONE;
            for (int l = 0; l < told.howMany(); l++) {
                int length = told.hasRule(l, BARS) ? house.has().lengthOf(l, slot) : 0;
                for (int i = 0; i < length; i++) {
                    int other = house.has().get(l, slot, i);
                    boolean stays = !gone.holds(other);
                    if (stays && (least == NONE || house.numberOf(other) < house.numberOf(least))) {
                        least = other;
                    }
                }
            }
            return least;
        }

        int removeAll(House house) {
            for (int i = 0; i < gone.length(); i++) {
                house.remove(gone.get(i));
            }
            return gone.length();
        }

        private void addThoseWithoutOwner(House house) {
            for (int i = 0; i < parts.length(); i++) {
                owners.clear();
                walk.addOwning(house.had(), parts.get(i), owners);
                if (areOwnersGone()) {
                    gone.add(parts.get(i));
                }
            }
        }

        private boolean areOwnersGone() {
            for (int i = 0; i < owners.length(); i++) {
                if (!gone.holds(owners.get(i))) {
                    return false;
                }
            }
            return true;
        }

        private boolean isBefore(House house, int slot, int other) {
            int far = walk.stepsTo(slot);
            int otherFar = walk.stepsTo(other);
            return far < otherFar || far == otherFar && house.numberOf(slot) < house.numberOf(other);
        }
    }

    /** A copy: the old slots, and for each the slot of its twin. */
    private static final class Twins {
        private final Told told;
        private final Walk walk;
        private final Slots old;
        private final int[] twins;

        Twins(Told told, Walk walk) {
            this.told = told;
            this.walk = walk;
            old = new Slots();
            twins = new int[MAX_OBJECTS];
        }

        /** The old ones, in the order of their NUMBERS. */
        void gather(House house, int start) {
            Slots found = walk.spread(house.has(), start);
            old.clear();
            for (int n = 0; n < found.length(); n++) {
                old.add(leastMissing(house, found));
            }
        }

        boolean fit(House house) {
            if (house.objects() + old.length() > MAX_OBJECTS) {
                return false;
            }
            for (int l = 0; l < told.howMany(); l++) {
                for (int slot = 0; slot < MAX_OBJECTS; slot++) {
                    int more = keepsOutsiders(l) && !old.holds(slot) ? howManyOldHave(house, l, slot) : 0;
                    if (house.had().lengthOf(l, slot) + more > MAX_ROW) {
                        return false;
                    }
                }
            }
            return true;
        }

        /** Answers the first NUMBER that is not yet given. */
        int build(House house, int firstNumber) {
            for (int n = 0; n < old.length(); n++) {
                int slot = old.get(n);
                if (Slots.isSlot(slot)) {
                    twins[slot] = house.admit(firstNumber + n, house.kindOf(slot));
                }
            }
            for (int l = 0; l < told.howMany(); l++) {
                for (int n = 0; n < old.length(); n++) {
                    copyHas(house, l, old.get(n));
                }
                for (int slot = 0; slot < MAX_OBJECTS; slot++) {
                    copyHad(house, l, slot);
                }
            }
            return firstNumber + old.length();
        }

        int twinOf(int slot) {
            return old.holds(slot) ? twins[slot] : NONE;
        }

        private int leastMissing(House house, Slots found) {
            int least = NONE;
            for (int i = 0; i < found.length(); i++) {
                int slot = found.get(i);
                boolean missing = !old.holds(slot);
                if (missing && (least == NONE || house.numberOf(slot) < house.numberOf(least))) {
                    least = slot;
                }
            }
            return least;
        }

        private boolean keepsOutsiders(int l) {
            return told.hasForm(l, MANY_TO_MANY) && !told.hasRule(l, OWNS);
        }

        private int howManyOldHave(House house, int l, int slot) {
            int number = 0;
            for (int i = 0; i < house.had().lengthOf(l, slot); i++) {
                if (old.holds(house.had().get(l, slot, i))) {
                    number++;
                }
            }
            return number;
        }

        /** What the twin of a haver HAS in the place of slot, or NONE. */
        private int standIn(int l, int slot) {
            if (old.holds(slot)) {
                return twinOf(slot);
            }
            return keepsOutsiders(l) ? slot : NONE;
        }

        private void copyHas(House house, int l, int haver) {
            int length = house.has().lengthOf(l, haver);
            for (int i = 0; i < length; i++) {
                int part = standIn(l, house.has().get(l, haver, i));
                if (part != NONE) {
                    house.joinHas(l, twinOf(haver), part);
                }
            }
        }

        private void copyHad(House house, int l, int slot) {
            int part = standIn(l, slot);
            // The row of an outsider grows while it is read: only who stood in it before counts.
            int length = part == NONE ? 0 : house.had().lengthOf(l, slot);
            for (int i = 0; i < length; i++) {
                int haver = house.had().get(l, slot, i);
                if (old.holds(haver)) {
                    house.joinHad(l, twinOf(haver), part);
                }
            }
        }
    }

    /**
     * Whether two are ALIKE. That is an equivalence: each pair that must be ALIKE joins two groups, and a pair within
     * one group tells nothing new, so fewer pairs than there are slots are ever looked at.
     */
    private static final class Groups {
        private final Told told;
        private final int[] leaders;
        private final int[] firsts;
        private final int[] seconds;
        private int length;

        Groups(Told told) {
            this.told = told;
            leaders = new int[MAX_OBJECTS];
            firsts = new int[MAX_OBJECTS];
            seconds = new int[MAX_OBJECTS];
        }

        boolean match(House house, int first, int second) {
            length = 0;
            for (int slot = 0; slot < MAX_OBJECTS; slot++) {
                leaders[slot] = slot;
            }
            demand(first, second);
            for (int head = 0; head < length && head < MAX_OBJECTS; head++) {
                if (!matchPair(house, firsts[head], seconds[head])) {
                    return false;
                }
            }
            return true;
        }

        private boolean matchPair(House house, int first, int second) {
            if (house.kindOf(first) != house.kindOf(second)) {
                return false;
            }
            for (int l = 0; l < told.howMany(); l++) {
                if (told.hasRule(l, OWNS) && !matchRows(house.has(), l, first, second)) {
                    return false;
                }
            }
            return true;
        }

        private boolean matchRows(Rows has, int l, int first, int second) {
            int parts = has.lengthOf(l, first);
            if (parts != has.lengthOf(l, second)) {
                return false;
            }
            for (int i = 0; i < parts; i++) {
                demand(has.get(l, first, i), has.get(l, second, i));
            }
            return true;
        }

        private void demand(int first, int second) {
            if (!Slots.isSlot(first) || !Slots.isSlot(second) || length >= MAX_OBJECTS) {
                return;
            }
            if (leaders[first] == leaders[second]) {
                return;
            }
            firsts[length] = first;
            seconds[length] = second;
            length++;
            int gained = leaders[second];
            for (int slot = 0; slot < MAX_OBJECTS; slot++) {
                if (leaders[slot] == gained) {
                    leaders[slot] = leaders[first];
                }
            }
        }
    }
}
