import java.lang.reflect.Constructor;
import java.lang.reflect.Field;
import java.lang.reflect.Method;
import java.lang.reflect.Modifier;
import java.util.TreeSet;

/** Each promise of the document by hand: ordinary inputs, the edges it names, and wrong inputs. */
public final class PromisesTest extends Checks {

    private static void publicFace() {
        TreeSet<String> seen = new TreeSet<>();
        for (Field f : DirtyCardHeap.class.getDeclaredFields()) {
            if (!Modifier.isPrivate(f.getModifiers())) {
                seen.add(f.getName());
            }
        }
        for (Constructor<?> c : DirtyCardHeap.class.getDeclaredConstructors()) {
            seen.add("new/" + c.getParameterCount());
        }
        for (Method m : DirtyCardHeap.class.getDeclaredMethods()) {
            if (!Modifier.isPrivate(m.getModifiers())) {
                seen.add(m.getName() + "/" + m.getParameterCount());
            }
        }
        String want = "[NOFIELD, NOMEMORY, NOROOT, NULL, PHASE, address/1, age/1, begin/0, cards/0, clear/1,"
                + " collect/1, copy/2, create/3, load/3, mark/0, marked/0, new/0, oldCells/0, payload/1,"
                + " phase/0, preclean/0, remark/0, same/2, store/3, sweep/0, youngCells/0]";
        due("the members " + seen, seen.toString().equals(want), true);
        due("final", Modifier.isFinal(DirtyCardHeap.class.getModifiers()), true);
        due("NOROOT", DirtyCardHeap.NOROOT, NOROOT);
        due("NULL", DirtyCardHeap.NULL, NULL);
        due("NOFIELD", DirtyCardHeap.NOFIELD, NOFIELD);
        due("NOMEMORY", DirtyCardHeap.NOMEMORY, NOMEMORY);
        due("PHASE", DirtyCardHeap.PHASE, PHASE);
    }

    private static void promise1NewObject() {
        DirtyCardHeap other = withOld(3, 3);
        other.begin();
        DirtyCardHeap h = new DirtyCardHeap();
        for (int r = 0; r < 6; r++) {
            due("address(" + r + ")", h.address(r), NULL);
            due("age(" + r + ")", h.age(r), NULL);
            due("payload(" + r + ")", h.payload(r), 0);
        }
        due("phase()", h.phase(), 0);
        due("oldCells()", h.oldCells(), 0);
        due("youngCells()", h.youngCells(), 0);
        due("cards()", h.cards(), 0);
        due("marked()", h.marked(), 0);
        due("collect(false)", h.collect(false), 0);
        due("collect(true)", h.collect(true), 0);
        due("cards()", h.cards(), 0);
        due("the other's phase()", other.phase(), 1);
        due("the other's oldCells()", other.oldCells(), 8);
    }

    private static void promise2Create() {
        DirtyCardHeap h = new DirtyCardHeap();
        for (int r = 0; r < 5; r++) {
            due("create(" + r + ", 3, 0)", h.create(r, 3, r), 0);
        }
        h.clear(0);
        for (int r : NO_ROOTS) {
            due("create(" + r + ", 1, 1)", h.create(r, 1, 1), NOROOT);
            due("create(" + r + ", 4, 1)", h.create(r, 4, 1), NOROOT);
        }
        for (int n : new int[] {-1, 4, Integer.MIN_VALUE, Integer.MAX_VALUE}) {
            due("create(0, " + n + ", 1)", h.create(0, n, 1), NOFIELD);
        }
        due("no collection was made: youngCells()", h.youngCells(), 20);
        due("no collection was made: age(1)", h.age(1), 0);
        due("a refused create leaves root 0", h.address(0), NULL);

        h = new DirtyCardHeap();
        due("create(5, 3, min)", h.create(5, 3, Integer.MIN_VALUE), 0);
        due("payload(5)", h.payload(5), Integer.MIN_VALUE);
        due("age(5)", h.age(5), 0);
        due("address(5)", h.address(5), -1);
        due("youngCells()", h.youngCells(), 4);
        for (int k = 0; k < 3; k++) {
            h.copy(0, 5);
            due("load(0, 5, " + k + ")", h.load(0, 5, k), 0);
            due("the new field is null", h.address(0), NULL);
        }
        due("load(0, 5, 3)", h.load(0, 5, 3), NOFIELD);
        due("create(5, 0, 8)", h.create(5, 0, 8), 0);
        due("payload(5)", h.payload(5), 8);
        due("load(0, 5, 0)", h.load(0, 5, 0), NOFIELD);
        due("youngCells()", h.youngCells(), 5);
    }

    private static void promise2CreateMakesRoom() {
        DirtyCardHeap h = new DirtyCardHeap();
        for (int r = 0; r < 5; r++) {
            h.create(r, 3, r);
        }
        due("20 cells fit without a collection", h.age(0), 0);
        h.clear(4);
        due("create(5, 3, 6)", h.create(5, 3, 6), 0);
        due("a young collection was made: age(0)", h.age(0), 1);
        due("and no full one: oldCells()", h.oldCells(), 0);
        due("youngCells()", h.youngCells(), 20);
        due("the new one: age(5)", h.age(5), 0);
        due("create(5, 0, 7)", h.create(5, 0, 7), 0);
        due("four became old: oldCells()", h.oldCells(), 16);
        due("root 5 still held while collecting: youngCells()", h.youngCells(), 5);

        h = new DirtyCardHeap();
        for (int i = 0; i < 5; i++) {
            h.create(0, 3, i);
            h.store(0, 0, 1);
            h.copy(1, 0);
        }
        h.begin();
        due("create(0, 0, 9)", h.create(0, 0, 9), 0);
        due("a full collection too: oldCells()", h.oldCells(), 20);
        due("youngCells()", h.youngCells(), 1);
        due("phase()", h.phase(), 0);
        due("the young collection set the order: address(1)", h.address(1), 0);
    }

    private static void promise2NoMemory() {
        DirtyCardHeap h = filled();
        due("oldCells()", h.oldCells(), 64);
        due("youngCells()", h.youngCells(), 20);
        due("age(0)", h.age(0), 0);
        due("cards()", h.cards(), 128);
        due("begin()", h.begin(), 0);
        for (int i = 1; i <= 12; i++) {
            due("create(0, 0, 99)", h.create(0, 0, 99), NOMEMORY);
            due("the young collection made it older: age(0)", h.age(0), Math.min(i, 9));
        }
        due("phase()", h.phase(), 0);
        due("payload(0)", h.payload(0), 21);
        due("oldCells()", h.oldCells(), 64);
        due("youngCells()", h.youngCells(), 20);
        due("cards()", h.cards(), 128);
        for (int i = 21; i >= 1; i--) {
            due("payload of link " + i, h.payload(0), i);
            h.load(0, 0, 0);
        }
        due("the end of the chain", h.address(0), NULL);
        due("the first link is still held by root 1", h.payload(1), 21);
        h.clear(1);
        due("create(0, 0, 5)", h.create(0, 0, 5), 0);
        due("what a dead old object refers to stays, the rest is gone: youngCells()", h.youngCells(), 17);
        due("and a full collection was not needed: oldCells()", h.oldCells(), 64);
    }

    private static void promise3Clear() {
        DirtyCardHeap h = new DirtyCardHeap();
        h.create(0, 0, 5);
        h.copy(1, 0);
        due("clear(0)", h.clear(0), true);
        due("address(0)", h.address(0), NULL);
        due("payload(1)", h.payload(1), 5);
        due("clear(0) again", h.clear(0), true);
        h.create(5, 0, 6);
        for (int r : NO_ROOTS) {
            due("clear(" + r + ")", h.clear(r), false);
        }
        due("payload(1)", h.payload(1), 5);
        due("clear(5)", h.clear(5), true);
        due("address(5)", h.address(5), NULL);
    }

    private static void promise4Copy() {
        DirtyCardHeap h = new DirtyCardHeap();
        h.create(0, 0, 5);
        h.create(1, 0, 6);
        due("copy(5, 0)", h.copy(5, 0), true);
        due("payload(5)", h.payload(5), 5);
        due("same(5, 0)", h.same(5, 0), true);
        due("payload(1)", h.payload(1), 6);
        due("copy(1, 1)", h.copy(1, 1), true);
        due("payload(1)", h.payload(1), 6);
        for (int r : NO_ROOTS) {
            due("copy(0, " + r + ")", h.copy(0, r), false);
            due("copy(" + r + ", 0)", h.copy(r, 0), false);
        }
        due("payload(0)", h.payload(0), 5);
        due("copy(0, 2)", h.copy(0, 2), true);
        due("address(0)", h.address(0), NULL);
    }

    private static void promise5Load() {
        DirtyCardHeap h = new DirtyCardHeap();
        h.create(0, 3, 10);
        h.create(1, 2, 11);
        h.create(2, 1, 12);
        h.store(0, 0, 1);
        h.store(0, 2, 2);
        due("load(3, 0, 0)", h.load(3, 0, 0), 0);
        due("payload(3)", h.payload(3), 11);
        due("load(3, 0, 2)", h.load(3, 0, 2), 0);
        due("payload(3)", h.payload(3), 12);
        due("load(3, 0, 1)", h.load(3, 0, 1), 0);
        due("address(3)", h.address(3), NULL);
        for (int r : NO_ROOTS) {
            due("load(" + r + ", 4, 0)", h.load(r, 4, 0), NOROOT);
            due("load(" + r + ", 0, 9)", h.load(r, 0, 9), NOROOT);
            due("load(0, " + r + ", 0)", h.load(0, r, 0), NOROOT);
        }
        due("load(0, 4, 9)", h.load(0, 4, 9), NULL);
        for (int k : new int[] {-1, 2, 3, Integer.MIN_VALUE, Integer.MAX_VALUE}) {
            due("load(0, 1, " + k + ")", h.load(0, 1, k), NOFIELD);
        }
        due("payload(0)", h.payload(0), 10);
        due("load(0, 0, 2)", h.load(0, 0, 2), 0);
        due("payload(0)", h.payload(0), 12);
    }

    private static void promise6Store() {
        DirtyCardHeap h = new DirtyCardHeap();
        h.create(0, 2, 10);
        h.create(1, 0, 11);
        due("store(0, 1, 1)", h.store(0, 1, 1), 0);
        due("store(0, 0, 0)", h.store(0, 0, 0), 0);
        due("a young one makes no card dirty", h.cards(), 0);
        h.load(2, 0, 1);
        due("payload(2)", h.payload(2), 11);
        h.load(2, 0, 0);
        due("same(2, 0)", h.same(2, 0), true);
        due("store(0, 1, 5)", h.store(0, 1, 5), 0);
        h.load(2, 0, 1);
        due("a null was stored", h.address(2), NULL);
        for (int r : NO_ROOTS) {
            due("store(" + r + ", 9, 0)", h.store(r, 9, 0), NOROOT);
            due("store(4, 0, " + r + ")", h.store(4, 0, r), NOROOT);
        }
        due("store(4, 9, 0)", h.store(4, 9, 0), NULL);
        for (int k : new int[] {-1, 2, 3, Integer.MIN_VALUE, Integer.MAX_VALUE}) {
            due("store(0, " + k + ", 1)", h.store(0, k, 1), NOFIELD);
        }
        due("store(1, 0, 0)", h.store(1, 0, 0), NOFIELD);
    }

    private static void promise6StoreDirties() {
        // Cells 0..2, 3..5 and 6..9: the last object's first field is on card 0, the others on card 1.
        DirtyCardHeap h = withOld(2, 2, 3);
        due("address(2)", h.address(2), 6);
        due("cards()", h.cards(), 0);
        due("a refused store", h.store(2, 3, 0), NOFIELD);
        due("cards()", h.cards(), 0);
        due("store(2, 1, 5)", h.store(2, 1, 5), 0);
        due("a null makes it dirty too", h.cards(), 2);
        due("collect(false)", h.collect(false), 0);
        due("cards()", h.cards(), 0);
        due("store(2, 0, 0)", h.store(2, 0, 0), 0);
        due("cards()", h.cards(), 1);
        due("store(2, 2, 2)", h.store(2, 2, 2), 0);
        due("cards()", h.cards(), 3);
        h.create(3, 1, 1);
        h.collect(false);
        due("cards()", h.cards(), 0);
        due("store(3, 0, 2)", h.store(3, 0, 2), 0);
        due("a young one makes none dirty", h.cards(), 0);
    }

    private static void promise7Payload() {
        DirtyCardHeap h = new DirtyCardHeap();
        h.create(0, 1, -7);
        h.create(5, 1, Integer.MAX_VALUE);
        due("payload(0)", h.payload(0), -7);
        due("payload(5)", h.payload(5), Integer.MAX_VALUE);
        due("payload(1)", h.payload(1), 0);
        for (int r : NO_ROOTS) {
            due("payload(" + r + ")", h.payload(r), 0);
        }
        h.collect(true);
        due("payload(0) of an old one", h.payload(0), -7);
    }

    private static void promise8Same() {
        DirtyCardHeap h = new DirtyCardHeap();
        h.create(0, 0, 5);
        h.create(1, 0, 5);
        h.copy(5, 0);
        due("same(0, 1)", h.same(0, 1), false);
        due("same(0, 5)", h.same(0, 5), true);
        due("same(1, 1)", h.same(1, 1), true);
        due("same(2, 3)", h.same(2, 3), true);
        due("same(0, 2)", h.same(0, 2), false);
        due("same(2, 0)", h.same(2, 0), false);
        for (int r : NO_ROOTS) {
            due("same(" + r + ", 0)", h.same(r, 0), false);
            due("same(2, " + r + ")", h.same(2, r), false);
            due("same(" + r + ", " + r + ")", h.same(r, r), false);
        }
        h.collect(true);
        due("same(0, 5) when moved", h.same(0, 5), true);
        due("same(0, 1) when moved", h.same(0, 1), false);
    }

    private static void promise9And10AddressAndAge() {
        DirtyCardHeap h = withOld(0, 3);
        h.create(5, 0, 1);
        due("address(0)", h.address(0), 0);
        due("address(1)", h.address(1), 1);
        due("address(5)", h.address(5), -1);
        due("address(4)", h.address(4), NULL);
        due("age(0)", h.age(0), -1);
        due("age(1)", h.age(1), -1);
        due("age(5)", h.age(5), 0);
        due("age(4)", h.age(4), NULL);
        h.collect(false);
        due("age(5)", h.age(5), 1);
        for (int r : NO_ROOTS) {
            due("address(" + r + ")", h.address(r), NOROOT);
            due("age(" + r + ")", h.age(r), NOROOT);
        }
    }

    private static void promise11YoungOrder() {
        // Roots come first, then the old fields by their cells, then breadth first.
        DirtyCardHeap h = withOld(1, 1);
        h.create(2, 0, 22);
        h.store(1, 0, 2);
        h.create(2, 0, 21);
        h.store(0, 0, 2);
        h.create(5, 2, 50);
        h.create(2, 0, 52);
        h.store(5, 1, 2);
        h.create(2, 1, 51);
        h.store(5, 0, 2);
        h.create(3, 0, 53);
        h.store(2, 0, 3);
        h.clear(2);
        h.create(3, 0, 30);
        due("collect(false)", h.collect(false), 0);
        due("cards()", h.cards(), 1);
        due("collect(false)", h.collect(false), 7);
        due("address(3), of a root", h.address(3), 4);
        due("address(5), of a root", h.address(5), 5);
        h.load(2, 0, 0);
        due("of cell 1", h.address(2), 8);
        h.load(2, 1, 0);
        due("of cell 3", h.address(2), 9);
        h.load(2, 5, 0);
        due("of the root's field 0", h.address(2), 10);
        h.load(3, 2, 0);
        due("of a field's field, last", h.address(3), 13);
        h.load(2, 5, 1);
        due("of the root's field 1", h.address(2), 12);
        due("cards()", h.cards(), 0);
    }

    private static void promise11OldWhenItBegan() {
        DirtyCardHeap h = withOld(1, 1);
        h.clear(0);
        freeGarbage(h);
        due("the hole: oldCells()", h.oldCells(), 2);
        h.create(0, 1, 1);
        h.create(2, 0, 2);
        h.create(3, 0, 3);
        h.store(0, 0, 2);
        h.store(1, 0, 3);
        h.clear(2);
        h.clear(3);
        due("collect(false)", h.collect(false), 0);
        due("collect(false)", h.collect(false), 3);
        due("the hole is filled: address(0)", h.address(0), 0);
        h.load(2, 0, 0);
        h.load(3, 1, 0);
        due("first what was referred to from an object that was old", h.address(3), 4);
        due("then what is referred to from one that became old", h.address(2), 5);
    }

    private static void promise11YoungKeepsAndDrops() {
        DirtyCardHeap h = withOld(1);
        h.create(1, 1, 5);
        h.create(2, 1, 6);
        h.store(0, 0, 1);
        h.store(1, 0, 1);
        h.copy(3, 1);
        h.clear(2);
        due("collect(false)", h.collect(false), 0);
        due("the unreachable one is gone: youngCells()", h.youngCells(), 2);
        due("reached once, though referred to often: age(1)", h.age(1), 1);
        h.clear(0);
        h.clear(1);
        h.clear(3);
        due("a dead old object keeps it: collect(false)", h.collect(false), 1);
        due("oldCells()", h.oldCells(), 4);
        due("collect(true)", h.collect(true), 0);
        due("oldCells()", h.oldCells(), 0);
    }

    private static void promise11NoPlace() {
        DirtyCardHeap h = filled();
        for (int i = 0; i < 3; i++) {
            due("no place: collect(false)", h.collect(false), 0);
        }
        due("age(0)", h.age(0), 3);
        due("youngCells()", h.youngCells(), 20);
        due("cards()", h.cards(), 128);
        for (int i = 0; i < 7; i++) {
            h.collect(false);
        }
        due("age(0)", h.age(0), 9);
        due("collect(true)", h.collect(true), 0);
        due("a full one leaves the ages: age(0)", h.age(0), 9);
    }

    private static void promise11PlaceForTheSmall() {
        // 63 cells taken and one free: a young collection goes on to the small one behind a large one.
        DirtyCardHeap h = new DirtyCardHeap();
        for (int i = 0; i < 15; i++) {
            h.create(0, 3, i);
            h.store(0, 0, 1);
            h.copy(1, 0);
            h.collect(true);
        }
        h.create(0, 2, 15);
        h.store(0, 0, 1);
        h.copy(1, 0);
        h.collect(true);
        due("oldCells()", h.oldCells(), 63);
        h.create(2, 1, 70);
        h.create(3, 0, 71);
        h.create(4, 0, 72);
        due("collect(true) stops at the first", h.collect(true), 0);
        due("youngCells()", h.youngCells(), 4);
        due("age(3)", h.age(3), 0);
        due("collect(false)", h.collect(false), 0);
        due("collect(false) goes on", h.collect(false), 1);
        due("age(2)", h.age(2), 2);
        due("address(3)", h.address(3), 63);
        due("age(4)", h.age(4), 2);
        due("youngCells()", h.youngCells(), 3);
        due("oldCells()", h.oldCells(), 64);
    }

    private static void promise11Full() {
        DirtyCardHeap h = withOld(3, 1, 2, 1);
        due("address(3)", h.address(3), 9);
        h.store(3, 0, 2);
        h.store(2, 0, 1);
        due("cards()", h.cards(), 2 | 1);
        h.clear(0);
        h.clear(1);
        h.create(4, 0, 40);
        h.create(5, 1, 50);
        h.begin();
        h.collect(false);
        due("noted: cards()", h.cards(), (2 | 1) << 8);
        h.create(1, 0, 10);
        h.clear(1);
        due("collect(true)", h.collect(true), 2);
        due("phase()", h.phase(), 0);
        due("marked()", h.marked(), 0);
        due("cards()", h.cards(), 0);
        h.load(1, 2, 0);
        due("the objects keep their order: address(1)", h.address(1), 0);
        due("address(2)", h.address(2), 2);
        due("address(3)", h.address(3), 5);
        due("address(4)", h.address(4), 7);
        due("address(5)", h.address(5), 8);
        due("oldCells()", h.oldCells(), 10);
        due("youngCells()", h.youngCells(), 0);
        due("payload(1)", h.payload(1), 101);
        due("payload(3)", h.payload(3), 103);
        h.load(0, 3, 0);
        due("references follow: same(0, 2)", h.same(0, 2), true);
        due("collect(true) with nothing to do", h.collect(true), 0);
        h.clear(0);
        h.clear(1);
        h.clear(2);
        h.clear(3);
        h.store(5, 0, 5);
        due("a cycle with itself stays while a root holds it", h.collect(true), 0);
        due("oldCells()", h.oldCells(), 3);
        h.clear(5);
        h.collect(true);
        due("and goes without: oldCells()", h.oldCells(), 1);
    }

    private static void promise11FullWhileSweeping() {
        DirtyCardHeap h = withOld(1, 1, 1);
        h.clear(0);
        h.clear(1);
        h.begin();
        h.remark();
        due("sweep()", h.sweep(), 0);
        due("collect(true)", h.collect(true), 0);
        due("phase()", h.phase(), 0);
        due("marked()", h.marked(), 0);
        due("address(2)", h.address(2), 0);
        due("oldCells()", h.oldCells(), 2);
        due("sweep()", h.sweep(), PHASE);
    }

    private static void promise12Begin() {
        DirtyCardHeap h = withOld(1, 1, 1);
        h.store(0, 0, 1);
        h.clear(1);
        h.copy(3, 0);
        h.create(4, 1, 5);
        h.store(4, 0, 1);
        due("begin()", h.begin(), 2);
        due("phase()", h.phase(), 1);
        due("marked()", h.marked(), 2002);
        due("the dirty stay: cards()", h.cards(), 1);
        due("begin()", h.begin(), PHASE);
        due("marked()", h.marked(), 2002);
        h.remark();
        due("begin()", h.begin(), PHASE);
        due("phase()", h.phase(), 2);
    }

    private static void promise13Mark() {
        DirtyCardHeap h = withOld(1, 3, 0, 0);
        due("mark()", h.mark(), PHASE);
        h.store(1, 0, 3);
        h.store(1, 1, 0);
        h.store(1, 2, 1);
        h.create(4, 0, 1);
        h.store(0, 0, 4);
        h.clear(0);
        h.clear(3);
        due("begin()", h.begin(), 2);
        due("mark()", h.mark(), 2);
        due("its fields are marked: marked()", h.marked(), 3004);
        due("the least address first: mark()", h.mark(), 0);
        due("a young one is not marked: marked()", h.marked(), 2004);
        due("mark()", h.mark(), 6);
        due("mark()", h.mark(), 7);
        due("marked()", h.marked(), 4);
        due("mark()", h.mark(), -1);
        due("mark()", h.mark(), -1);
        due("phase()", h.phase(), 1);
        h.remark();
        due("mark()", h.mark(), PHASE);
    }

    private static void promise14Preclean() {
        // Cells 0..3, 4..5, 6..9 and 10..13 and 14..17: the third and the last lie on two cards.
        DirtyCardHeap h = withOld(3, 1, 3, 3, 3);
        due("preclean()", h.preclean(), PHASE);
        h.clear(1);
        h.begin();
        for (int i = 0; i < 4; i++) {
            h.mark();
        }
        due("marked()", h.marked(), 4);
        due("preclean()", h.preclean(), -1);
        h.store(4, 1, 5);
        h.store(0, 0, 5);
        due("cards()", h.cards(), 4 | 1);
        due("a dirty card is no noted one: preclean()", h.preclean(), -1);
        h.collect(false);
        due("cards()", h.cards(), (4 | 1) << 8);
        h.store(0, 0, 5);
        due("cards()", h.cards(), (4 | 1) << 8 | 1);
        due("preclean()", h.preclean(), 0);
        due("the marked ones that lie on it are grey: marked()", h.marked(), 2004);
        due("cards()", h.cards(), 4 << 8 | 1);
        due("mark()", h.mark(), 0);
        due("mark()", h.mark(), 6);
        due("mark()", h.mark(), -1);
        due("preclean()", h.preclean(), 2);
        due("marked()", h.marked(), 1004);
        due("mark()", h.mark(), 14);
        due("preclean()", h.preclean(), -1);
        due("cards()", h.cards(), 1);
        h.remark();
        due("preclean()", h.preclean(), PHASE);
    }

    private static void promise14NotedOnlyWhileMarking() {
        DirtyCardHeap h = withOld(1);
        h.store(0, 0, 0);
        h.collect(false);
        due("idle: cards()", h.cards(), 0);
        h.store(0, 0, 0);
        h.begin();
        h.collect(false);
        due("marking: cards()", h.cards(), 256);
        h.collect(false);
        due("it stays noted: cards()", h.cards(), 256);
        h.store(0, 0, 0);
        due("cards()", h.cards(), 257);
        h.remark();
        due("noted no more, but dirty: cards()", h.cards(), 1);
        h.collect(false);
        due("sweeping: cards()", h.cards(), 0);
    }

    private static void promise15Remark() {
        DirtyCardHeap h = withOld(1, 1, 1, 1, 1);
        due("remark()", h.remark(), PHASE);
        // A chain 0 -> 1 -> 2 and the garbage 3 -> 4.
        h.store(0, 0, 1);
        h.store(1, 0, 2);
        h.store(3, 0, 4);
        for (int r = 1; r < 5; r++) {
            h.clear(r);
        }
        h.collect(false);
        due("cards()", h.cards(), 0);
        due("begin()", h.begin(), 1);
        due("what was grey is scanned, and what turns grey by that: remark()", h.remark(), 2);
        due("marked()", h.marked(), 3);
        due("phase()", h.phase(), 2);
        due("remark()", h.remark(), PHASE);
    }

    private static void promise15RemarkFindsWhatWasMissed() {
        // 3 -> 1 -> 2; behind the marker's back the reference to 1 goes over to another holder.
        for (int way = 0; way < 4; way++) {
            DirtyCardHeap h = withOld(1, 1, 1, 1);
            h.store(1, 0, 2);
            h.store(3, 0, 1);
            h.clear(2);
            h.clear(1);
            h.collect(false);
            due("begin()", h.begin(), 2);
            due("mark()", h.mark(), 0);
            h.load(1, 3, 0);
            h.store(3, 0, 5);
            h.collect(false);
            h.preclean();
            due("mark()", h.mark(), 0);
            due("mark()", h.mark(), 6);
            due("all marked ones are scanned: mark()", h.mark(), -1);
            if (way == 0) {
                h.store(0, 0, 1);
                h.clear(1);
                due("a dirty card: cards()", h.cards(), 1);
            } else if (way == 1) {
                h.store(0, 0, 1);
                h.clear(1);
                h.collect(false);
                due("a noted card: cards()", h.cards(), 256);
            } else if (way == 2) {
                due("a root: cards()", h.cards(), 0);
            } else {
                h.create(2, 1, 9);
                h.store(2, 0, 1);
                h.clear(2);
                h.clear(1);
                due("an unreachable young object: cards()", h.cards(), 0);
            }
            due("remark() in way " + way, h.remark(), 2);
            due("marked() in way " + way, h.marked(), 4);
            due("cards() in way " + way, h.cards(), way == 0 ? 1 : 0);
            due("sweep()", h.sweep(), 64);
            due("sweep()", h.sweep(), 66);
            due("sweep()", h.sweep(), 68);
            due("sweep()", h.sweep(), 70);
            due("sweep()", h.sweep(), 128);
        }
    }

    private static void promise16Sweep() {
        DirtyCardHeap h = withOld(3, 2, 1, 0);
        due("sweep()", h.sweep(), PHASE);
        h.clear(0);
        h.clear(2);
        h.begin();
        due("sweep()", h.sweep(), PHASE);
        h.remark();
        due("marked()", h.marked(), 2);
        due("sweep()", h.sweep(), 0);
        due("oldCells()", h.oldCells(), 6);
        due("sweep()", h.sweep(), 68);
        due("oldCells()", h.oldCells(), 6);
        due("sweep()", h.sweep(), 7);
        due("oldCells()", h.oldCells(), 4);
        due("sweep()", h.sweep(), 73);
        due("marked()", h.marked(), 2);
        due("phase()", h.phase(), 2);
        due("sweep()", h.sweep(), 128);
        due("marked()", h.marked(), 0);
        due("phase()", h.phase(), 0);
        due("sweep()", h.sweep(), PHASE);
        due("nothing moves: address(1)", h.address(1), 4);
        due("address(3)", h.address(3), 9);
    }

    private static void promise16PlacedWhileSweeping() {
        DirtyCardHeap h = withOld(3, 2, 1, 0);
        h.clear(0);
        h.clear(2);
        h.create(0, 0, 50);
        h.create(2, 1, 51);
        h.create(4, 3, 52);
        h.collect(false);
        h.begin();
        h.remark();
        due("sweep()", h.sweep(), 0);
        due("collect(false)", h.collect(false), 3);
        due("the least place: address(0)", h.address(0), 0);
        due("address(2)", h.address(2), 1);
        due("address(4)", h.address(4), 10);
        due("all are marked, none is grey: marked()", h.marked(), 5);
        due("what lies below is not looked at: sweep()", h.sweep(), 68);
        h.clear(4);
        due("sweep()", h.sweep(), 7);
        due("sweep()", h.sweep(), 73);
        due("it was marked when it was placed: sweep()", h.sweep(), 74);
        due("sweep()", h.sweep(), 128);
        due("oldCells()", h.oldCells(), 11);
        due("the next marking starts anew: begin()", h.begin(), 4);
        h.remark();
        due("sweep()", h.sweep(), 64);
        due("sweep()", h.sweep(), 65);
        due("sweep()", h.sweep(), 68);
        due("sweep()", h.sweep(), 73);
        due("sweep()", h.sweep(), 10);
        due("sweep()", h.sweep(), 128);
    }

    private static void promise16SweepToTheLastCell() {
        DirtyCardHeap h = filled();
        h.begin();
        h.remark();
        for (int i = 0; i < 16; i++) {
            due("sweep()", h.sweep(), 64 + 4 * i);
        }
        due("phase()", h.phase(), 2);
        due("sweep()", h.sweep(), 128);
        due("phase()", h.phase(), 0);
    }

    private static void promise11ReachingWhileMarking() {
        DirtyCardHeap h = withOld(3, 2);
        h.create(2, 3, 5);
        h.store(2, 0, 0);
        h.collect(false);
        h.begin();
        due("collect(false)", h.collect(false), 1);
        due("address(2)", h.address(2), 7);
        due("marked, not grey: marked()", h.marked(), 2003);
        due("both of its cards were dirty and are noted: cards()", h.cards(), 3 << 8);
        due("idle ones are not marked", withOld(1).marked(), 0);
    }

    private static void promise17To21Observers() {
        DirtyCardHeap h = withOld(3, 3);
        h.create(2, 2, 1);
        h.create(3, 0, 1);
        due("phase()", h.phase(), 0);
        due("oldCells()", h.oldCells(), 8);
        due("youngCells()", h.youngCells(), 4);
        h.clear(3);
        due("an unreachable young one counts: youngCells()", h.youngCells(), 4);
        h.clear(1);
        due("an unreachable old one counts: oldCells()", h.oldCells(), 8);
        h.store(0, 0, 2);
        due("cards()", h.cards(), 1);
        due("begin()", h.begin(), 1);
        due("phase()", h.phase(), 1);
        due("marked()", h.marked(), 1001);
        h.mark();
        due("marked()", h.marked(), 1);
        h.remark();
        due("phase()", h.phase(), 2);
        due("oldCells()", h.oldCells(), 8);
        h.sweep();
        due("sweep()", h.sweep(), 4);
        due("oldCells()", h.oldCells(), 4);
        h.sweep();
        due("phase()", h.phase(), 0);
    }

    private static void promise20AllCards() {
        DirtyCardHeap h = filled();
        for (int i = 0; i < 21; i++) {
            h.store(0, 1, 5);
            h.load(0, 0, 0);
        }
        due("cards()", h.cards(), 255);
        h.begin();
        h.collect(false);
        due("all but the one that refers to a young object: cards()", h.cards(), 127 << 8 | 128);
        h.copy(0, 1);
        for (int i = 0; i < 21; i++) {
            h.store(0, 1, 5);
            h.load(0, 0, 0);
        }
        due("cards()", h.cards(), 127 << 8 | 255);
    }

    public static void main(String[] args) throws ReflectiveOperationException {
        run(PromisesTest.class, false);
    }
}
