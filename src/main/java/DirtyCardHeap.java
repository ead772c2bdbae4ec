/**
 * A heap with a young part that is emptied by copying and an old part that is marked and swept
 * step by step while the program changes fields. DOC.md tells what each call promises.
 */
public final class DirtyCardHeap {
    public static final int NOROOT = -2;
    public static final int NULL = -3;
    public static final int NOFIELD = -4;
    public static final int NOMEMORY = -5;
    public static final int PHASE = -6;

    private static final int DONE = 0;
    private static final int NONE = -1;

    private static final int ROOTS = 6;
    private static final int MOST_FIELDS = 3;
    private static final int YOUNG_CELLS = 20;
    private static final int OLD_CELLS = 64;
    private static final int MOST_OBJECTS = YOUNG_CELLS + OLD_CELLS;
    private static final int CARD_CELLS = 8;
    private static final int CARDS = 8;
    private static final int AGE_TO_BECOME_OLD = 2;
    private static final int GREATEST_AGE = 9;

    private static final int IDLE = 0;
    private static final int MARKING = 1;
    private static final int SWEEPING = 2;

    private static final int SWEPT_MARKED = 64;
    private static final int SWEPT_ALL = 128;
    private static final int GREY_WEIGHT = 1000;

    private final Thing[] roots = new Thing[ROOTS];
    private final Row young = new Row(YOUNG_CELLS);
    private final OldPart old = new OldPart();
    // Kept from call to call so that a collection makes no new row.
    private final Row reached = new Row(MOST_OBJECTS);

    // Sets of cards: bit c stands for card c.
    private int dirty;
    private int noted;

    private int currentPhase;
    private int sweepAddress;

    public DirtyCardHeap() {
        dirty = 0;
        noted = 0;
        currentPhase = IDLE;
        sweepAddress = 0;
    }

    public int create(int r, int fields, int payload) {
        if (!isRoot(r)) {
            return NOROOT;
        }
        if (fields < 0 || fields > MOST_FIELDS) {
            return NOFIELD;
        }
        int size = 1 + fields;
        if (!hasRoom(size)) {
            collectYoung();
        }
        if (!hasRoom(size)) {
            collectAll();
        }
        if (!hasRoom(size)) {
            return NOMEMORY;
        }
        Thing thing = new Thing(payload, fields);
        young.add(thing);
        roots[r] = thing;
        return DONE;
    }

    public boolean clear(int r) {
        if (!isRoot(r)) {
            return false;
        }
        roots[r] = null;
        return true;
    }

    public boolean copy(int r, int q) {
        if (!isRoot(r) || !isRoot(q)) {
            return false;
        }
        roots[r] = roots[q];
        return true;
    }

    public int load(int r, int q, int k) {
        if (!isRoot(r) || !isRoot(q)) {
            return NOROOT;
        }
        Thing from = roots[q];
        if (from == null) {
            return NULL;
        }
        if (!from.hasField(k)) {
            return NOFIELD;
        }
        roots[r] = from.fields[k];
        return DONE;
    }

    public int store(int r, int k, int q) {
        if (!isRoot(r) || !isRoot(q)) {
            return NOROOT;
        }
        Thing into = roots[r];
        if (into == null) {
            return NULL;
        }
        if (!into.hasField(k)) {
            return NOFIELD;
        }
        into.fields[k] = roots[q];
        if (into.isOld()) {
            dirty |= cardOf(into.address + 1 + k);
        }
        return DONE;
    }

    public int payload(int r) {
        Thing thing = thingOf(r);
        return thing == null ? 0 : thing.payload;
    }

    public boolean same(int r, int q) {
        return isRoot(r) && isRoot(q) && roots[r] == roots[q];
    }

    public int address(int r) {
        if (!isRoot(r)) {
            return NOROOT;
        }
        Thing thing = roots[r];
        if (thing == null) {
            return NULL;
        }
        return thing.isOld() ? thing.address : NONE;
    }

    public int age(int r) {
        if (!isRoot(r)) {
            return NOROOT;
        }
        Thing thing = roots[r];
        if (thing == null) {
            return NULL;
        }
        return thing.isYoung() ? thing.age : NONE;
    }

    public int collect(boolean full) {
        return full ? collectAll() : collectYoung();
    }

    public int begin() {
        if (currentPhase != IDLE) {
            return PHASE;
        }
        currentPhase = MARKING;
        noted = 0;
        return shadeFromRoots();
    }

    public int mark() {
        if (currentPhase != MARKING) {
            return PHASE;
        }
        Thing thing = old.firstGrey();
        if (thing == null) {
            return NONE;
        }
        scan(thing);
        return thing.address;
    }

    public int preclean() {
        if (currentPhase != MARKING) {
            return PHASE;
        }
        for (int card = 0; card < CARDS; card++) {
            int bit = 1 << card;
            if ((noted & bit) != 0) {
                noted &= ~bit;
                old.greyMarkedOn(bit);
                return card;
            }
        }
        return NONE;
    }

    public int remark() {
        if (currentPhase != MARKING) {
            return PHASE;
        }
        old.greyMarkedOn(dirty | noted);
        int count = shadeFromRoots() + shadeFromYoung() + scanAllGrey();
        noted = 0;
        currentPhase = SWEEPING;
        sweepAddress = 0;
        return count;
    }

    public int sweep() {
        if (currentPhase != SWEEPING) {
            return PHASE;
        }
        Thing thing = old.firstFrom(sweepAddress);
        if (thing == null) {
            currentPhase = IDLE;
            old.unmarkAll();
            return SWEPT_ALL;
        }
        int start = thing.address;
        sweepAddress = start + thing.size();
        if (thing.marked) {
            return SWEPT_MARKED + start;
        }
        old.takeOut(thing);
        thing.becomeGone();
        return start;
    }

    public int phase() {
        return currentPhase;
    }

    public int oldCells() {
        return old.cellsTaken();
    }

    public int youngCells() {
        return young.cellsTaken();
    }

    public int cards() {
        return dirty | noted << CARDS;
    }

    public int marked() {
        int sum = 0;
        for (int a = 0; a < OLD_CELLS; a++) {
            Thing thing = old.thingAt(a);
            if (thing != null && thing.marked) {
                sum += thing.grey ? 1 + GREY_WEIGHT : 1;
            }
        }
        return sum;
    }

    private static boolean isRoot(int r) {
        return r >= 0 && r < ROOTS;
    }

    private static int cardOf(int cell) {
        return 1 << cell / CARD_CELLS;
    }

    private Thing thingOf(int r) {
        return isRoot(r) ? roots[r] : null;
    }

    // Room and places

    private boolean hasRoom(int size) {
        return young.cellsTaken() + size <= YOUNG_CELLS;
    }

    /** Makes a young object old if it has a place; answers whether it had. */
    private boolean placeAsOld(Thing thing) {
        int place = old.findPlace(thing.size());
        if (place == NONE) {
            return false;
        }
        old.putAt(thing, place);
        dirty |= thing.cardsUnder();
        thing.marked = currentPhase != IDLE;
        return true;
    }

    // The young collection

    private int collectYoung() {
        int dirtyBefore = dirty;
        for (int r = 0; r < ROOTS; r++) {
            reachYoung(roots[r]);
        }
        reachFromCards(dirtyBefore);
        for (int i = 0; i < MOST_OBJECTS && i < reached.count; i++) {
            reachFields(reached.things[i]);
        }
        dropUnreachedYoung();
        int becameOld = renewYoungOrder();
        reached.letGo();
        cleanCards();
        return becameOld;
    }

    private void reachYoung(Thing thing) {
        if (thing == null || !thing.isYoung() || !reached.reach(thing)) {
            return;
        }
        thing.age = Math.min(thing.age + 1, GREATEST_AGE);
        if (thing.age >= AGE_TO_BECOME_OLD) {
            placeAsOld(thing);
        }
    }

    private void reachFromCards(int dirtyBefore) {
        for (int a = 0; a < OLD_CELLS; a++) {
            Thing owner = old.cells[a];
            // What was reached in this collection was not old when it began.
            boolean wasOld = owner != null && !owner.reached;
            if (wasOld && (dirtyBefore & cardOf(a)) != 0) {
                reachYoung(old.referenceIn(a));
            }
        }
    }

    private void reachFields(Thing thing) {
        for (int k = 0; k < thing.fields.length; k++) {
            reachYoung(thing.fields[k]);
        }
    }

    private void dropUnreachedYoung() {
        for (int i = 0; i < young.count; i++) {
            if (!young.things[i].reached) {
                young.things[i].becomeGone();
            }
        }
    }

    /** Answers how many of the reached objects became old. */
    private int renewYoungOrder() {
        young.empty();
        int becameOld = 0;
        for (int i = 0; i < reached.count; i++) {
            if (reached.things[i].isYoung()) {
                young.add(reached.things[i]);
            } else {
                becameOld++;
            }
        }
        return becameOld;
    }

    private void cleanCards() {
        int cleaned = dirty & ~old.cardsReferringToYoung();
        dirty &= ~cleaned;
        if (currentPhase == MARKING) {
            noted |= cleaned;
        }
    }

    // The full collection

    private int collectAll() {
        findReachable();
        old.slideReached();
        old.unmarkAll();
        currentPhase = IDLE;
        keepReachedYoung();
        reached.letGo();
        int becameOld = placeYoungInOrder();
        noted = 0;
        dirty = old.cardsReferringToYoung();
        return becameOld;
    }

    private void findReachable() {
        for (int r = 0; r < ROOTS; r++) {
            reached.reach(roots[r]);
        }
        for (int i = 0; i < MOST_OBJECTS && i < reached.count; i++) {
            Thing thing = reached.things[i];
            for (int k = 0; k < thing.fields.length; k++) {
                reached.reach(thing.fields[k]);
            }
        }
    }

    private void keepReachedYoung() {
        dropUnreachedYoung();
        int before = young.count;
        young.empty();
        for (int i = 0; i < before; i++) {
            if (young.things[i].reached) {
                young.add(young.things[i]);
            }
        }
    }

    /** Moves the young objects over in their order, up to the first that has no place. */
    private int placeYoungInOrder() {
        int before = young.count;
        int becameOld = 0;
        while (becameOld < before && placeAsOld(young.things[becameOld])) {
            becameOld++;
        }
        young.empty();
        for (int i = becameOld; i < before; i++) {
            young.add(young.things[i]);
        }
        return becameOld;
    }

    // Marking

    /** Marks an old object that is not marked yet, and makes it grey; answers how many that were. */
    private static int shade(Thing thing) {
        if (thing == null || !thing.isOld() || thing.marked) {
            return 0;
        }
        thing.marked = true;
        thing.grey = true;
        return 1;
    }

    private static int shadeFields(Thing thing) {
        int count = 0;
        for (int k = 0; k < thing.fields.length; k++) {
            count += shade(thing.fields[k]);
        }
        return count;
    }

    private int shadeFromRoots() {
        int count = 0;
        for (int r = 0; r < ROOTS; r++) {
            count += shade(roots[r]);
        }
        return count;
    }

    private int shadeFromYoung() {
        int count = 0;
        for (int i = 0; i < young.count; i++) {
            count += shadeFields(young.things[i]);
        }
        return count;
    }

    private static int scan(Thing thing) {
        thing.grey = false;
        return shadeFields(thing);
    }

    private int scanAllGrey() {
        int count = 0;
        // Only an unmarked object turns grey here, so none is scanned twice.
        for (int i = 0; i < OLD_CELLS; i++) {
            Thing thing = old.firstGrey();
            if (thing == null) {
                break;
            }
            count += scan(thing);
        }
        return count;
    }

    /** An object of the heap. */
    private static final class Thing {
        private static final int YOUNG = -1;
        private static final int GONE = -2;

        final int payload;
        final Thing[] fields;
        int age;
        // Where it stands in the old part, or YOUNG or GONE.
        int address;
        boolean marked;
        boolean grey;
        // Whether the collection that is going on has come to it.
        boolean reached;

        Thing(int payload, int fieldCount) {
            this.payload = payload;
            this.fields = new Thing[fieldCount];
            this.age = 0;
            this.address = YOUNG;
        }

        int size() {
            return 1 + fields.length;
        }

        boolean isYoung() {
            return address == YOUNG;
        }

        boolean isOld() {
            return address >= 0;
        }

        // Garbage that the sweeper has yet to free may still refer to what it has freed.
        void becomeGone() {
            address = GONE;
        }

        boolean hasField(int k) {
            return k >= 0 && k < fields.length;
        }

        /** The cards that an old object lies on. */
        int cardsUnder() {
            int under = 0;
            for (int i = 0; i <= fields.length; i++) {
                under |= cardOf(address + i);
            }
            return under;
        }
    }

    /** Objects in an order. */
    private static final class Row {
        final Thing[] things;
        int count;

        Row(int most) {
            things = new Thing[most];
            count = 0;
        }

        boolean add(Thing thing) {
            if (count >= things.length) {
                return false;
            }
            things[count] = thing;
            count++;
            return true;
        }

        /** Adds an object that was not reached yet; answers whether it did. */
        boolean reach(Thing thing) {
            if (thing == null || thing.reached || !add(thing)) {
                return false;
            }
            thing.reached = true;
            return true;
        }

        void letGo() {
            for (int i = 0; i < count; i++) {
                things[i].reached = false;
            }
            count = 0;
        }

        void empty() {
            count = 0;
        }

        int cellsTaken() {
            int sum = 0;
            for (int i = 0; i < count; i++) {
                sum += things[i].size();
            }
            return sum;
        }
    }

    /** The cells of the old part, each with the object that takes it. */
    private static final class OldPart {
        final Thing[] cells = new Thing[OLD_CELLS];

        /** The least address with so many free cells, or NONE. */
        int findPlace(int size) {
            int free = 0;
            for (int a = 0; a < OLD_CELLS; a++) {
                free = cells[a] == null ? free + 1 : 0;
                if (free == size) {
                    return a + 1 - size;
                }
            }
            return NONE;
        }

        void putAt(Thing thing, int place) {
            thing.address = place;
            fill(place, thing.size(), thing);
        }

        void takeOut(Thing thing) {
            fill(thing.address, thing.size(), null);
        }

        private void fill(int from, int size, Thing thing) {
            for (int a = Math.max(from, 0); a < from + size && a < OLD_CELLS; a++) {
                cells[a] = thing;
            }
        }

        /** The object whose address this is, or null. */
        Thing thingAt(int a) {
            Thing thing = cells[a];
            return thing != null && thing.address == a ? thing : null;
        }

        Thing firstFrom(int least) {
            for (int a = Math.max(least, 0); a < OLD_CELLS; a++) {
                Thing thing = thingAt(a);
                if (thing != null) {
                    return thing;
                }
            }
            return null;
        }

        Thing firstGrey() {
            for (int a = 0; a < OLD_CELLS; a++) {
                Thing thing = thingAt(a);
                if (thing != null && thing.grey) {
                    return thing;
                }
            }
            return null;
        }

        /** What the field in this cell refers to; null when the cell is no field's. */
        Thing referenceIn(int a) {
            Thing thing = cells[a];
            if (thing == null) {
                return null;
            }
            int k = a - thing.address - 1;
            return thing.hasField(k) ? thing.fields[k] : null;
        }

        int cardsReferringToYoung() {
            int referring = 0;
            for (int a = 0; a < OLD_CELLS; a++) {
                Thing thing = referenceIn(a);
                if (thing != null && thing.isYoung()) {
                    referring |= cardOf(a);
                }
            }
            return referring;
        }

        void greyMarkedOn(int cards) {
            for (int a = 0; a < OLD_CELLS; a++) {
                Thing thing = cells[a];
                if (thing != null && thing.marked && (cards & cardOf(a)) != 0) {
                    thing.grey = true;
                }
            }
        }

        void unmarkAll() {
            for (int a = 0; a < OLD_CELLS; a++) {
                Thing thing = cells[a];
                if (thing != null) {
                    thing.marked = false;
                    thing.grey = false;
                }
            }
        }

        /** Moves the reached objects down until there is no gap; the others are gone. */
        void slideReached() {
            int top = 0;
            for (int a = 0; a < OLD_CELLS; a++) {
                Thing thing = thingAt(a);
                if (thing == null) {
                    continue;
                }
                takeOut(thing);
                if (thing.reached) {
                    putAt(thing, top);
                    top += thing.size();
                } else {
                    thing.becomeGone();
                }
            }
        }

        int cellsTaken() {
            int taken = 0;
            for (int a = 0; a < OLD_CELLS; a++) {
                if (cells[a] != null) {
                    taken++;
                }
            }
            return taken;
        }
    }
}
