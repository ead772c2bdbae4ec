import java.util.function.IntFunction;
import java.util.function.ToLongFunction;

/** The document's promises: each sentence that names a boundary case has a test of its own here. */
public final class EdgesOfPromisesTest extends Checks {

    /** A call that is refused for each number that is no root, whatever the phase. */
    private static void refusedForNoRoot(String call, IntFunction<ToLongFunction<DirtyCardHeap>> made, long code) {
        for (int r : NO_ROOTS) {
            refusedInEachPhase(call + " for " + r, made.apply(r), code);
        }
    }

    private static long asNumber(boolean answer) {
        return answer ? 1 : 0;
    }

    // ---- Promise 1: a new object

    private static void p01NoObject() {
        says(1, "No object");
        DirtyCardHeap h = new DirtyCardHeap();
        due("oldCells()", h.oldCells(), 0);
        due("youngCells()", h.youngCells(), 0);
        due("marked()", h.marked(), 0);
        due("collect(false)", h.collect(false), 0);
        due("collect(true)", h.collect(true), 0);
        due("create(0, 0, 1)", h.create(0, 0, 1), 0);
        h.collect(true);
        due("the first one is placed first: address(0)", h.address(0), 0);
    }

    private static void p01AllRootsNull() {
        says(1, "all roots null");
        DirtyCardHeap h = new DirtyCardHeap();
        for (int r = 0; r < 6; r++) {
            due("address(" + r + ")", h.address(r), NULL);
            due("age(" + r + ")", h.age(r), NULL);
            due("payload(" + r + ")", h.payload(r), 0);
            due("same(" + r + ", 0)", h.same(r, 0), true);
        }
    }

    private static void p01NoCard() {
        says(1, "no card dirty or noted");
        DirtyCardHeap h = new DirtyCardHeap();
        due("cards()", h.cards(), 0);
        h.begin();
        due("preclean()", h.preclean(), -1);
        due("cards()", h.cards(), 0);
    }

    private static void p01Idle() {
        says(1, "the phase is IDLE");
        refused("mark()", DirtyCardHeap::new, DirtyCardHeap::mark, PHASE);
        refused("preclean()", DirtyCardHeap::new, DirtyCardHeap::preclean, PHASE);
        refused("remark()", DirtyCardHeap::new, DirtyCardHeap::remark, PHASE);
        refused("sweep()", DirtyCardHeap::new, DirtyCardHeap::sweep, PHASE);
        DirtyCardHeap h = new DirtyCardHeap();
        due("phase()", h.phase(), 0);
        due("begin()", h.begin(), 0);
    }

    // ---- Promise 2: create

    private static void p02NoRoot() {
        says(2, "NOROOT when r is not 0 .. 5");
        refusedForNoRoot("create(r, 0, 9)", r -> h -> h.create(r, 0, 9), NOROOT);
        for (int r = 0; r < 6; r++) {
            due("create(" + r + ", 0, 9)", new DirtyCardHeap().create(r, 0, 9), 0);
        }
    }

    private static void p02NoField() {
        says(2, "NOFIELD when fields is not 0 .. 3");
        for (int n : NO_FIELD_COUNTS) {
            refusedInEachPhase("create(0, " + n + ", 9)", h -> h.create(0, n, 9), NOFIELD);
        }
        for (int n = 0; n <= 3; n++) {
            due("create(0, " + n + ", 9)", new DirtyCardHeap().create(0, n, 9), 0);
        }
    }

    private static void p02BothFirst() {
        says(2, "both before anything else");
        // A collection would be seen: it would make the young objects older.
        refused("create(6, 0, 9)", Checks::filled, h -> h.create(6, 0, 9), NOROOT);
        refused("create(0, 4, 9)", Checks::filled, h -> h.create(0, 4, 9), NOFIELD);
        refused("create(0, -1, 9)", Checks::filled, h -> h.create(0, -1, 9), NOFIELD);
        refused("create(-1, 4, 9)", Checks::filled, h -> h.create(-1, 4, 9), NOROOT);
    }

    private static void p02TheNewObject() {
        says(2, "a new object with that payload and so many fields, all null, and age 0");
        for (int payload : new int[] {0, -1, Integer.MIN_VALUE, Integer.MAX_VALUE}) {
            DirtyCardHeap h = new DirtyCardHeap();
            h.create(0, 3, payload);
            due("payload(0)", h.payload(0), payload);
            due("age(0)", h.age(0), 0);
            due("address(0)", h.address(0), -1);
            for (int k = 0; k < 3; k++) {
                h.copy(1, 0);
                due("load(1, 0, " + k + ")", h.load(1, 0, k), 0);
                due("null: address(1)", h.address(1), NULL);
            }
        }
    }

    private static void p02TheLastInTheOrder() {
        says(2, "the last in the young order");
        DirtyCardHeap h = new DirtyCardHeap();
        for (int r : new int[] {4, 2, 5, 0, 3, 1}) {
            h.create(r, 0, r);
        }
        due("collect(true)", h.collect(true), 6);
        int[] addresses = {3, 5, 1, 4, 0, 2};
        for (int r = 0; r < 6; r++) {
            due("address(" + r + ")", h.address(r), addresses[r]);
        }
        // Also behind those that a collection left.
        h = new DirtyCardHeap();
        h.create(3, 0, 3);
        h.create(2, 0, 2);
        h.collect(false);
        h.create(1, 0, 1);
        h.collect(true);
        due("address(2)", h.address(2), 0);
        due("address(3)", h.address(3), 1);
        due("address(1)", h.address(1), 2);
    }

    private static void p02TheRoot() {
        says(2, "root r refers to it. Answers 0.");
        DirtyCardHeap h = new DirtyCardHeap();
        due("create(5, 1, 1)", h.create(5, 1, 1), 0);
        h.copy(4, 5);
        due("create(5, 0, 2)", h.create(5, 0, 2), 0);
        due("payload(5)", h.payload(5), 2);
        due("no other root changes: payload(4)", h.payload(4), 1);
        due("youngCells()", h.youngCells(), 3);
    }

    private static void p02AYoungCollectionFirst() {
        says(2, "When the young part has not enough cells left for it, a young collection is made first");
        for (int size = 1; size <= 4; size++) {
            for (int missing = 0; missing < 2; missing++) {
                DirtyCardHeap h = new DirtyCardHeap();
                h.create(0, 0, 1);
                for (int cells = 1; cells < 20 - size + missing; cells++) {
                    h.create(1, 0, 2);
                }
                h.begin();
                due("create(2, " + (size - 1) + ", 3)", h.create(2, size - 1, 3), 0);
                due(missing + " cells missing for " + size + ": age(0)", h.age(0), missing);
                due("youngCells()", h.youngCells(), missing == 0 ? 20 : 2 + size);
                due("the new one: age(2)", h.age(2), 0);
                due("and no full one: phase()", h.phase(), 1);
            }
        }
    }

    private static void p02ThenAFullCollection() {
        says(2, "when it has still not, then a full collection too");
        // A young collection leaves 19 cells: enough for 1 cell, not for 2.
        for (int fields = 0; fields < 2; fields++) {
            DirtyCardHeap h = new DirtyCardHeap();
            for (int i = 0; i < 4; i++) {
                link(h, 3, i);
            }
            link(h, 2, 4);
            h.create(2, 0, 5);
            h.clear(2);
            h.begin();
            due("create(2, " + fields + ", 6)", h.create(2, fields, 6), 0);
            due("phase()", h.phase(), fields == 0 ? 1 : 0);
            due("oldCells()", h.oldCells(), fields == 0 ? 0 : 19);
            due("youngCells()", h.youngCells(), fields == 0 ? 20 : 2);
            // The young collection came first: the order is that of reaching.
            due("address(0)", h.address(0), fields == 0 ? -1 : 0);
        }
    }

    private static void p02NoMemory() {
        says(2, "when it has still not, the answer is NOMEMORY");
        for (int fields = 0; fields <= 3; fields++) {
            // The old part and 18 cells of the young part are full of what is reachable.
            DirtyCardHeap h = withOldChain(64);
            for (int i = 0; i < 4; i++) {
                link(h, 3, i);
            }
            link(h, 1, 4);
            due("create(2, " + fields + ", 9)", h.create(2, fields, 9), fields < 2 ? 0 : NOMEMORY);
            due("address(2)", h.address(2), fields < 2 ? -1 : NULL);
            due("youngCells()", h.youngCells(), fields < 2 ? 19 + fields : 18);
        }
    }

    private static void p02NothingElseIsChanged() {
        says(2, "nothing is changed but by these two collections");
        for (int phase = 0; phase < 3; phase++) {
            DirtyCardHeap called = inPhase(phase, filled());
            DirtyCardHeap collected = inPhase(phase, filled());
            for (int i = 0; i < 3; i++) {
                due("create(0, 0, 9)", called.create(0, 0, 9), NOMEMORY);
                due("create(2, 3, 9)", called.create(2, 3, 9), NOMEMORY);
                for (int j = 0; j < 2; j++) {
                    collected.collect(false);
                    collected.collect(true);
                }
            }
            due("payload(0)", called.payload(0), 21);
            due("address(2)", called.address(2), NULL);
            due("what is seen", seen(called), seen(collected));
            due("what follows", goneOn(called), goneOn(collected));
        }
    }

    private static void p02TheRootWhileTheyAreMade() {
        says(2, "(Root r refers to what it did before while they are made.)");
        DirtyCardHeap h = new DirtyCardHeap();
        for (int r = 0; r < 5; r++) {
            h.create(r, 3, r);
        }
        due("create(0, 3, 9)", h.create(0, 3, 9), 0);
        due("what root 0 held became old with the others: oldCells()", h.oldCells(), 20);
        due("payload(0)", h.payload(0), 9);
        due("the second one lies behind it: address(1)", h.address(1), 4);

        h = withOldChain(64);
        for (int i = 0; i < 5; i++) {
            h.create(i == 0 ? 0 : i + 1, 3, 80 + i);
        }
        due("20 cells hang on roots: create(0, 0, 9)", h.create(0, 0, 9), NOMEMORY);
        due("payload(0)", h.payload(0), 80);
        due("age(0)", h.age(0), 1);
    }

    // ---- Promises 3 and 4: clear and copy

    private static void p03Clear() {
        says(3, "Root r becomes null.");
        for (int r = 0; r < 6; r++) {
            DirtyCardHeap h = withOld(0, 0, 0, 0, 0, 0);
            due("clear(" + r + ")", h.clear(r), true);
            for (int q = 0; q < 6; q++) {
                due("address(" + q + ")", h.address(q), q == r ? NULL : q);
            }
            due("clear(" + r + ") of a null root", h.clear(r), true);
            due("address(" + r + ")", h.address(r), NULL);
            due("the object is still there: oldCells()", h.oldCells(), 6);
        }
    }

    private static void p03NoRoot() {
        says(3, "False when r is not 0 .. 5.");
        refusedForNoRoot("clear(r)", r -> h -> asNumber(h.clear(r)), 0);
    }

    private static void p04Copy() {
        says(4, "Root r becomes what root q holds.");
        DirtyCardHeap h = withOld(0, 0);
        due("copy(5, 0)", h.copy(5, 0), true);
        due("address(5)", h.address(5), 0);
        due("address(0)", h.address(0), 0);
        due("copy(0, 1)", h.copy(0, 1), true);
        due("address(0)", h.address(0), 1);
        due("a copy does not follow: address(5)", h.address(5), 0);
        due("copy(1, 1)", h.copy(1, 1), true);
        due("address(1)", h.address(1), 1);
        due("copy(1, 3) of null", h.copy(1, 3), true);
        due("address(1)", h.address(1), NULL);
        due("copy(1, 3) of null to null", h.copy(1, 3), true);
        due("address(1)", h.address(1), NULL);
    }

    private static void p04NoRoot() {
        says(4, "False when r or q is not 0 .. 5.");
        refusedForNoRoot("copy(r, 0)", r -> h -> asNumber(h.copy(r, 0)), 0);
        refusedForNoRoot("copy(0, q)", q -> h -> asNumber(h.copy(0, q)), 0);
        refusedForNoRoot("copy(0, q) of null", q -> h -> asNumber(h.copy(5, q)), 0);
        refusedForNoRoot("copy(r, r)", r -> h -> asNumber(h.copy(r, r)), 0);
    }

    // ---- Promises 5 and 6: load and store

    private static void p05Load() {
        says(5, "Root r becomes what field k (0 the first) of the object of root q holds; answers 0.");
        DirtyCardHeap h = withOld(3, 0, 0);
        h.store(0, 0, 1);
        h.store(0, 2, 2);
        due("into a null root: load(5, 0, 0)", h.load(5, 0, 0), 0);
        due("same(5, 1)", h.same(5, 1), true);
        due("the last field: load(5, 0, 2)", h.load(5, 0, 2), 0);
        due("same(5, 2)", h.same(5, 2), true);
        due("a field that is null: load(5, 0, 1)", h.load(5, 0, 1), 0);
        due("address(5)", h.address(5), NULL);
        due("root q stays: address(0)", h.address(0), 0);
        due("into the root itself: load(0, 0, 2)", h.load(0, 0, 2), 0);
        due("same(0, 2)", h.same(0, 2), true);
        due("loading makes no card dirty anew", h.cards(), 1);
    }

    private static void p05NoRoot() {
        says(5, "NOROOT when r or q is not 0 .. 5");
        refusedForNoRoot("load(r, 1, 0)", r -> h -> h.load(r, 1, 0), NOROOT);
        refusedForNoRoot("load(1, q, 0)", q -> h -> h.load(1, q, 0), NOROOT);
        refusedForNoRoot("load(r, 5, 9)", r -> h -> h.load(r, 5, 9), NOROOT);
        refusedForNoRoot("load(r, 1, -1)", r -> h -> h.load(r, 1, -1), NOROOT);
    }

    private static void p05Null() {
        says(5, "NULL when root q is null");
        refusedInEachPhase("load(1, 5, 0)", h -> h.load(1, 5, 0), NULL);
        refusedInEachPhase("load(5, 5, 0)", h -> h.load(5, 5, 0), NULL);
        refusedInEachPhase("load(1, 5, 3)", h -> h.load(1, 5, 3), NULL);
        refusedInEachPhase("load(1, 5, -1)", h -> h.load(1, 5, -1), NULL);
    }

    private static void p05NoField() {
        says(5, "NOFIELD when its object has no field k");
        // Roots 0 to 4 hold objects with 1, 3, 0, 2 and 2 fields.
        int[] fields = {1, 3, 0, 2, 2};
        for (int r = 0; r < 5; r++) {
            int q = r;
            for (int k : new int[] {fields[q], 4, -1, Integer.MIN_VALUE, Integer.MAX_VALUE}) {
                refusedInEachPhase("load(5, " + q + ", " + k + ")", h -> h.load(5, q, k), NOFIELD);
            }
            due("load(5, " + q + ", last)", busyIdle().load(5, q, fields[q] - 1), fields[q] == 0 ? NOFIELD : 0);
        }
    }

    private static void p06Store() {
        says(6, "Stores what root q holds into field k of the object of root r; answers 0.");
        for (boolean old : new boolean[] {false, true}) {
            DirtyCardHeap h = new DirtyCardHeap();
            h.create(0, 3, 10);
            if (old) {
                h.collect(true);
            }
            h.create(1, 0, 12);
            due("the first field: store(0, 0, 1)", h.store(0, 0, 1), 0);
            due("itself into the last field: store(0, 2, 0)", h.store(0, 2, 0), 0);
            h.load(2, 0, 0);
            due("same(2, 1)", h.same(2, 1), true);
            h.load(2, 0, 1);
            due("the one between is still null: address(2)", h.address(2), NULL);
            h.load(2, 0, 2);
            due("same(2, 0)", h.same(2, 0), true);
            due("a null root is no refusal: store(0, 0, 5)", h.store(0, 0, 5), 0);
            h.load(2, 0, 0);
            due("address(2)", h.address(2), NULL);
            due("roots stay: payload(1)", h.payload(1), 12);
        }
    }

    private static void p06NoRoot() {
        says(6, "NOROOT when r or q is not 0 .. 5");
        refusedForNoRoot("store(r, 0, 1)", r -> h -> h.store(r, 0, 1), NOROOT);
        refusedForNoRoot("store(1, 0, q)", q -> h -> h.store(1, 0, q), NOROOT);
        refusedForNoRoot("store(5, 0, q)", q -> h -> h.store(5, 0, q), NOROOT);
        refusedForNoRoot("store(1, 9, q)", q -> h -> h.store(1, 9, q), NOROOT);
    }

    private static void p06Null() {
        says(6, "NULL when root r is null");
        refusedInEachPhase("store(5, 0, 1)", h -> h.store(5, 0, 1), NULL);
        refusedInEachPhase("store(5, 0, 5)", h -> h.store(5, 0, 5), NULL);
        refusedInEachPhase("store(5, 3, 1)", h -> h.store(5, 3, 1), NULL);
        refusedInEachPhase("store(5, -1, 1)", h -> h.store(5, -1, 1), NULL);
    }

    private static void p06NoField() {
        says(6, "NOFIELD when its object has no field k");
        int[] fields = {1, 3, 0, 2, 2};
        for (int root = 0; root < 5; root++) {
            int r = root;
            for (int k : new int[] {fields[r], 4, -1, Integer.MIN_VALUE, Integer.MAX_VALUE}) {
                refusedInEachPhase("store(" + r + ", " + k + ", 0)", h -> h.store(r, k, 0), NOFIELD);
            }
            due("store(" + r + ", last, 0)", busyIdle().store(r, fields[r] - 1, 0), fields[r] == 0 ? NOFIELD : 0);
        }
    }

    // ---- Promises 7 to 10: payload, same, address, age

    private static void p07Payload() {
        says(7, "The payload of the object of root r");
        for (int payload : new int[] {0, 1, -1, -6, Integer.MIN_VALUE, Integer.MAX_VALUE}) {
            DirtyCardHeap h = new DirtyCardHeap();
            h.create(5, 1, payload);
            due("young: payload(5)", h.payload(5), payload);
            h.collect(true);
            due("old: payload(5)", h.payload(5), payload);
        }
    }

    private static void p07NoRootOrNull() {
        says(7, "0 when r is not 0 .. 5 or the root is null");
        refusedForNoRoot("payload(r)", r -> h -> h.payload(r), 0);
        refusedInEachPhase("payload(5)", h -> h.payload(5), 0);
    }

    private static void p08Same() {
        says(8, "Whether roots r and q both refer to the same object, or both are null.");
        DirtyCardHeap h = new DirtyCardHeap();
        h.create(0, 1, 7);
        h.create(1, 1, 7);
        h.copy(5, 0);
        for (int old = 0; old < 2; old++) {
            due("same(0, 5)", h.same(0, 5), true);
            due("same(5, 0)", h.same(5, 0), true);
            due("same(0, 0)", h.same(0, 0), true);
            due("two that are alike: same(0, 1)", h.same(0, 1), false);
            due("both null: same(2, 3)", h.same(2, 3), true);
            due("null with itself: same(2, 2)", h.same(2, 2), true);
            due("one null: same(0, 2)", h.same(0, 2), false);
            due("one null: same(2, 0)", h.same(2, 0), false);
            h.collect(true);
        }
    }

    private static void p08NoRoot() {
        says(8, "False when r or q is not 0 .. 5.");
        refusedForNoRoot("same(r, 0)", r -> h -> asNumber(h.same(r, 0)), 0);
        refusedForNoRoot("same(0, q)", q -> h -> asNumber(h.same(0, q)), 0);
        refusedForNoRoot("same(r, 5), null", r -> h -> asNumber(h.same(r, 5)), 0);
        refusedForNoRoot("same(5, q), null", q -> h -> asNumber(h.same(5, q)), 0);
        refusedForNoRoot("same(r, r)", r -> h -> asNumber(h.same(r, r)), 0);
    }

    private static void p09Address() {
        says(9, "The address of the object of root r when it is old");
        DirtyCardHeap h = new DirtyCardHeap();
        addOld(h, 0, 0);
        pad(h, 62);
        addOld(h, 5, 0);
        due("address(0)", h.address(0), 0);
        due("address(5)", h.address(5), 63);
    }

    private static void p09Young() {
        says(9, "-1 when it is young");
        DirtyCardHeap h = filled();
        for (int i = 0; i < 10; i++) {
            due("whatever its age: address(0)", h.address(0), -1);
            h.collect(false);
        }
    }

    private static void p09NoRoot() {
        says(9, "NOROOT when r is not 0 .. 5");
        refusedForNoRoot("address(r)", r -> h -> h.address(r), NOROOT);
    }

    private static void p09Null() {
        says(9, "NULL when the root is null");
        refusedInEachPhase("address(5)", h -> h.address(5), NULL);
    }

    private static void p10Age() {
        says(10, "The age of the object of root r when it is young");
        DirtyCardHeap h = withOldChain(64);
        h.create(5, 0, 5);
        for (int i = 0; i < 12; i++) {
            due("age(5)", h.age(5), Math.min(i, 9));
            h.collect(true);
            due("a full collection makes it no older: age(5)", h.age(5), Math.min(i, 9));
            h.collect(false);
        }
    }

    private static void p10Old() {
        says(10, "-1 when it is old");
        DirtyCardHeap h = withOld(0);
        due("by a young collection: age(0)", h.age(0), -1);
        h.create(5, 0, 5);
        h.collect(true);
        due("by a full collection: age(5)", h.age(5), -1);
        h.collect(false);
        due("age(0)", h.age(0), -1);
    }

    private static void p10NoRoot() {
        says(10, "NOROOT when r is not 0 .. 5");
        refusedForNoRoot("age(r)", r -> h -> h.age(r), NOROOT);
    }

    private static void p10Null() {
        says(10, "NULL when the root is null");
        refusedInEachPhase("age(5)", h -> h.age(5), NULL);
    }

    // ---- Promise 11: collect

    private static void p11FullOrYoung() {
        says(11, "A full collection, or else a young one.");
        DirtyCardHeap h = inPhase(1, withOld(1));
        h.clear(0);
        h.create(1, 0, 11);
        h.collect(false);
        due("a young one: oldCells()", h.oldCells(), 2);
        due("age(1)", h.age(1), 1);
        due("phase()", h.phase(), 1);
        h.collect(true);
        due("a full one: oldCells()", h.oldCells(), 1);
        due("age(1)", h.age(1), -1);
        due("phase()", h.phase(), 0);
    }

    private static void p11Answer() {
        says(11, "Answers how many objects became old by it.");
        DirtyCardHeap h = new DirtyCardHeap();
        due("no object: collect(false)", h.collect(false), 0);
        due("no object: collect(true)", h.collect(true), 0);
        for (int i = 0; i < 20; i++) {
            h.create(0, 0, i);
        }
        due("19 of 20 are gone: collect(true)", h.collect(true), 1);
        h.create(1, 2, 11);
        h.create(2, 0, 12);
        h.store(1, 0, 2);
        h.clear(2);
        due("both stay young: collect(false)", h.collect(false), 0);
        h.create(3, 0, 13);
        due("two of three: collect(false)", h.collect(false), 2);
        h.clear(0);
        due("two move and one becomes old: collect(true)", h.collect(true), 1);
        due("oldCells()", h.oldCells(), 5);
    }

    // ---- Promise 12: begin

    private static void p12FromIdleToMarking() {
        says(12, "From IDLE to MARKING");
        DirtyCardHeap h = new DirtyCardHeap();
        due("no object: begin()", h.begin(), 0);
        due("phase()", h.phase(), 1);
        h = withHoles();
        h.begin();
        due("in the next round: phase()", h.phase(), 1);
        h.collect(true);
        h.begin();
        due("after a full collection: phase()", h.phase(), 1);
    }

    private static void p12MarksWhatRootsHold() {
        says(12, "every old object to which a root refers becomes marked and grey");
        due("six: begin()", withOld(0, 0, 0, 0, 0, 0).begin(), 6);
        for (int r = 0; r < 6; r++) {
            DirtyCardHeap h = withOld(1, 1);
            h.store(1, 0, 0);
            h.create(3, 1, 13);
            h.store(3, 0, 0);
            h.clear(0);
            h.copy(r, 1);
            h.clear(r == 1 ? 0 : 1);
            due("root " + r + ": begin()", h.begin(), 1);
            due("neither what fields refer to, nor a young one: marked()", h.marked(), 1001);
            due("mark()", h.mark(), 2);
        }
    }

    private static void p12NoCardNoted() {
        says(12, "no card is noted");
        DirtyCardHeap h = withOld(1);
        h.store(0, 0, 0);
        h.begin();
        due("the dirty stay dirty: cards()", h.cards(), 1);
        h.collect(false);
        due("cards()", h.cards(), 256);
        h.remark();
        h.sweep();
        h.sweep();
        due("phase()", h.phase(), 0);
        h.begin();
        due("in the next round: cards()", h.cards(), 0);
        due("preclean()", h.preclean(), -1);
    }

    private static void p12Answer() {
        says(12, "Answers how many were marked.");
        due("no object: begin()", new DirtyCardHeap().begin(), 0);
        DirtyCardHeap h = withOld(0);
        for (int r = 1; r < 6; r++) {
            h.copy(r, 0);
        }
        due("six roots with one object: begin()", h.begin(), 1);
        h = withOld(0);
        h.clear(0);
        due("no root refers to it: begin()", h.begin(), 0);
        h = new DirtyCardHeap();
        h.create(0, 0, 1);
        due("a young one: begin()", h.begin(), 0);
        due("phase()", h.phase(), 1);
    }

    private static void p12Phase() {
        says(12, "PHASE when the phase is not IDLE.");
        refused("marking: begin()", Checks::busyMarking, DirtyCardHeap::begin, PHASE);
        refused("sweeping: begin()", Checks::busySweeping, DirtyCardHeap::begin, PHASE);
        due("idle again: begin()", withHoles().begin(), 3);
    }

    // ---- Promise 13: mark

    private static void p13LeastAddress() {
        says(13, "The grey object with the least address is grey no more, and is scanned: answers its address");
        DirtyCardHeap h = new DirtyCardHeap();
        addOld(h, 0, 0);
        addOld(h, 1, 0);
        pad(h, 60);
        addOld(h, 2, 1);
        h.store(2, 0, 0);
        h.clear(0);
        due("begin()", h.begin(), 2);
        due("mark()", h.mark(), 1);
        due("marked()", h.marked(), 1002);
        due("mark()", h.mark(), 62);
        due("marked()", h.marked(), 1003);
        due("what turned grey lies below: mark()", h.mark(), 0);
        due("marked()", h.marked(), 3);
        due("mark()", h.mark(), -1);

        h = new DirtyCardHeap();
        pad(h, 63);
        addOld(h, 5, 0);
        h.begin();
        due("the last cell: mark()", h.mark(), 63);
    }

    private static void p13NoGrey() {
        says(13, "-1 when there is no grey object");
        refused("no object: mark()", () -> inPhase(1, new DirtyCardHeap()), DirtyCardHeap::mark, -1);
        refused("all scanned: mark()", EdgesOfPromisesTest::allScanned, DirtyCardHeap::mark, -1);
    }

    /** In MARKING: two objects are marked and not grey, one is not marked; a card is dirty, another noted. */
    private static DirtyCardHeap allScanned() {
        DirtyCardHeap h = withOld(3, 3, 3);
        h.clear(1);
        h.begin();
        h.mark();
        h.mark();
        h.store(2, 0, 0);
        h.collect(false);
        h.store(0, 0, 2);
        return h;
    }

    private static void p13Phase() {
        says(13, "PHASE when the phase is not MARKING.");
        refused("idle: mark()", Checks::busyIdle, DirtyCardHeap::mark, PHASE);
        refused("sweeping: mark()", Checks::busySweeping, DirtyCardHeap::mark, PHASE);
    }

    // ---- Promise 14: preclean

    /** In MARKING: all eight cards are noted by what was placed; the last object is root 0's. */
    private static DirtyCardHeap allNoted() {
        DirtyCardHeap h = inPhase(1, new DirtyCardHeap());
        pad(h, 60);
        addOld(h, 0, 3);
        return h;
    }

    private static void p14LeastCard() {
        says(14, "The noted card with the least number is noted no more");
        DirtyCardHeap h = allNoted();
        due("cards()", h.cards(), 255 << 8);
        for (int c = 0; c < 8; c++) {
            due("preclean()", h.preclean(), c);
            due("cards()", h.cards(), (255 << c + 1 & 255) << 8);
        }
        due("preclean()", h.preclean(), -1);
        h.store(0, 0, 0);
        h.collect(false);
        h.store(0, 0, 0);
        due("cards()", h.cards(), 128 << 8 | 128);
        due("preclean()", h.preclean(), 7);
        due("dirty it stays: cards()", h.cards(), 128);
    }

    private static void p14MarkedOnes() {
        says(14, "all marked objects that lie on it become grey");
        DirtyCardHeap h = allNoted();
        due("marked()", h.marked(), 16);
        for (int c = 0; c < 8; c++) {
            h.preclean();
            due("two on each card: marked()", h.marked(), 16 + 2000 * (c + 1));
        }
        // Cells 0..2, 3..5 (not marked), 6..9 on two cards, 10..13.
        h = withOld(2, 2, 3, 3);
        h.clear(1);
        h.begin();
        for (int i = 0; i < 3; i++) {
            h.mark();
        }
        h.store(0, 0, 5);
        h.store(3, 0, 5);
        h.collect(false);
        due("cards()", h.cards(), 3 << 8);
        due("preclean()", h.preclean(), 0);
        due("marked()", h.marked(), 2003);
        due("preclean()", h.preclean(), 1);
        due("one was grey before: marked()", h.marked(), 3003);
        due("mark()", h.mark(), 0);
        due("mark()", h.mark(), 6);
        due("mark()", h.mark(), 10);
    }

    private static void p14Answer() {
        says(14, "answers the card's number");
        // Only the first and the last card are noted; the object at 62 has its field in the last cell.
        DirtyCardHeap h = new DirtyCardHeap();
        addOld(h, 0, 1);
        pad(h, 60);
        addOld(h, 1, 1);
        h.begin();
        h.store(1, 0, 0);
        h.store(0, 0, 0);
        h.collect(false);
        due("cards()", h.cards(), 129 << 8);
        due("preclean()", h.preclean(), 0);
        due("preclean()", h.preclean(), 7);
        due("preclean()", h.preclean(), -1);
    }

    private static void p14NoneNoted() {
        says(14, "-1 when no card is noted");
        refused("no object: preclean()", () -> inPhase(1, new DirtyCardHeap()), DirtyCardHeap::preclean, -1);
        refused("but one is dirty: preclean()", () -> inPhase(1, busyIdle()), DirtyCardHeap::preclean, -1);
    }

    private static void p14Phase() {
        says(14, "PHASE when the phase is not MARKING.");
        refused("idle: preclean()", Checks::busyIdle, DirtyCardHeap::preclean, PHASE);
        refused("sweeping: preclean()", Checks::busySweeping, DirtyCardHeap::preclean, PHASE);
    }

    // ---- Promise 15: remark

    private static void p15FromMarkingToSweeping() {
        says(15, "From MARKING to SWEEPING");
        DirtyCardHeap h = inPhase(1, new DirtyCardHeap());
        due("no object: remark()", h.remark(), 0);
        due("phase()", h.phase(), 2);
        h = busyMarking();
        h.remark();
        due("phase()", h.phase(), 2);
    }

    private static void p15DirtyOrNoted() {
        says(15, "all marked objects that lie on a dirty or a noted card become grey");
        for (int way = 0; way < 3; way++) {
            // An object in cells 5..8 is scanned; then its last field, on card 1, is given the only
            // reference to one that is not marked.
            DirtyCardHeap h = withOld(2, 1, 3, 0, 1);
            h.store(4, 0, 3);
            h.clear(3);
            h.collect(false);
            h.begin();
            for (int i = 0; i < 3; i++) {
                h.mark();
            }
            due("the last one is still grey: marked()", h.marked(), 1004);
            h.load(3, 4, 0);
            h.store(4, 0, 5);
            h.store(2, 2, 3);
            h.clear(3);
            due("cards()", h.cards(), 2);
            if (way > 0) {
                h.collect(false);
                due("cards()", h.cards(), 2 << 8);
            }
            if (way > 1) {
                h.store(2, 1, 5);
                due("cards()", h.cards(), 2 << 8 | 1);
            }
            due("way " + way + ": remark()", h.remark(), 1);
            due("way " + way + ": marked()", h.marked(), 5);
        }
    }

    private static void p15RootsAndYoung() {
        says(15, "every old object to which a root or a field of a young object (reachable or not) refers, and which "
                + "is not marked, becomes marked and grey");
        for (int r = 0; r < 6; r++) {
            DirtyCardHeap h = withOld(1);
            h.create(1, 1, 11);
            h.store(1, 0, 0);
            h.clear(0);
            h.begin();
            h.load(r, 1, 0);
            h.clear(r == 1 ? 0 : 1);
            h.collect(false);
            due("no young object is left: youngCells()", h.youngCells(), 0);
            due("root " + r + " refers to it: remark()", h.remark(), 1);
            due("marked()", h.marked(), 1);
        }
        for (int k = 0; k < 3; k++) {
            for (boolean reachable : new boolean[] {false, true}) {
                DirtyCardHeap h = withOld(1);
                h.create(1, 3, 11);
                h.store(1, k, 0);
                h.clear(0);
                if (!reachable) {
                    h.clear(1);
                }
                due("begin()", h.begin(), 0);
                due("field " + k + " of a young object refers to it: remark()", h.remark(), 1);
                due("marked()", h.marked(), 1);
            }
        }
        DirtyCardHeap h = withOld(1);
        h.clear(0);
        h.begin();
        due("nothing refers to it: remark()", h.remark(), 0);
        due("marked()", h.marked(), 0);
    }

    private static void p15UntilThereIsNone() {
        says(15, "then grey objects are scanned, and are grey no more, until there is none");
        DirtyCardHeap h = withOldChain(64);
        due("begin()", h.begin(), 1);
        due("a chain that goes down: remark()", h.remark(), 15);
        due("marked()", h.marked(), 16);
        h = withOld(1, 1, 1, 1, 1, 1);
        for (int r = 0; r < 5; r++) {
            h.store(r, 0, r + 1);
        }
        h.store(5, 0, 0);
        for (int r = 1; r < 6; r++) {
            h.clear(r);
        }
        due("begin()", h.begin(), 1);
        due("a ring that goes up: remark()", h.remark(), 5);
        due("marked()", h.marked(), 6);
    }

    private static void p15NoneNotedThen() {
        says(15, "No card is noted then (dirty ones stay dirty)");
        DirtyCardHeap h = busyMarking();
        due("cards()", h.cards(), 3 << 8 | 1);
        h.remark();
        due("cards()", h.cards(), 1);
        h = allNoted();
        h.remark();
        due("cards()", h.cards(), 0);
    }

    private static void p15SweepAddress() {
        says(15, "the sweep address is 0");
        DirtyCardHeap h = withOld(0, 0);
        for (int round = 0; round < 2; round++) {
            h.begin();
            h.remark();
            due("sweep()", h.sweep(), 64);
            due("sweep()", h.sweep(), 65);
            due("sweep()", h.sweep(), 128);
        }
        // Also when a full collection ended the sweeping before.
        h.begin();
        h.remark();
        h.sweep();
        h.collect(true);
        h.begin();
        h.remark();
        due("sweep()", h.sweep(), 64);
    }

    private static void p15Answer() {
        says(15, "Answers how many objects were marked by that.");
        DirtyCardHeap h = withOld(1, 1, 1);
        h.begin();
        due("all were marked before: remark()", h.remark(), 0);
        h = withOld(2, 0, 0);
        h.store(0, 0, 1);
        h.store(0, 1, 2);
        h.clear(1);
        h.clear(2);
        h.begin();
        due("not those that were marked before: remark()", h.remark(), 2);
        due("marked()", h.marked(), 3);
    }

    private static void p15Phase() {
        says(15, "PHASE when the phase is not MARKING.");
        refused("idle: remark()", Checks::busyIdle, DirtyCardHeap::remark, PHASE);
        refused("sweeping: remark()", Checks::busySweeping, DirtyCardHeap::remark, PHASE);
    }

    // ---- Promise 16: sweep

    /** In SWEEPING: cells 0 to 5 are free, an object is at 6, and the sweep address is 3. */
    private static DirtyCardHeap sweptToThree() {
        DirtyCardHeap h = withOld(2, 2, 0);
        h.clear(1);
        freeGarbage(h);
        h.clear(0);
        h.begin();
        h.remark();
        due("sweep()", h.sweep(), 0);
        due("oldCells()", h.oldCells(), 1);
        return h;
    }

    private static void p16NotBelow() {
        says(16, "Looks at the old object with the least address that is not below the sweep address");
        DirtyCardHeap h = sweptToThree();
        addOld(h, 0, 2);
        due("address(0)", h.address(0), 0);
        due("it is below: sweep()", h.sweep(), 70);
        due("sweep()", h.sweep(), 128);

        h = sweptToThree();
        addOld(h, 0, 2);
        addOld(h, 1, 0);
        due("address(1)", h.address(1), 3);
        due("it is just there: sweep()", h.sweep(), 67);
        due("sweep()", h.sweep(), 70);

        h = sweptToThree();
        addOld(h, 0, 3);
        due("it goes from 0 to 3: address(0)", h.address(0), 0);
        due("it begins below: sweep()", h.sweep(), 70);
        due("sweep()", h.sweep(), 128);
    }

    private static void p16CellBehind() {
        says(16, "the sweep address becomes that of the cell behind it");
        for (int fields = 0; fields <= 3; fields++) {
            // The first is swept away or not; what is placed behind it then is looked at next.
            for (int garbage = 0; garbage < 2; garbage++) {
                DirtyCardHeap h = withOld(fields);
                if (garbage == 1) {
                    h.clear(0);
                }
                h.begin();
                h.remark();
                due("sweep()", h.sweep(), garbage == 1 ? 0 : 64);
                for (int a = 0; garbage == 1 && a <= fields; a++) {
                    addOld(h, 1, 0);
                    due("where the first one was: address(1)", h.address(1), a);
                }
                addOld(h, 2, 0);
                due("address(2)", h.address(2), 1 + fields);
                due("sweep()", h.sweep(), 65 + fields);
                due("sweep()", h.sweep(), 128);
            }
        }
    }

    private static void p16NotMarked() {
        says(16, "When it is not marked, it is gone, and its address is answered");
        DirtyCardHeap h = new DirtyCardHeap();
        pad(h, 63);
        addOld(h, 5, 0);
        h.clear(5);
        h.begin();
        h.remark();
        for (int a = 0; a < 64; a += a == 60 ? 3 : 4) {
            due("sweep()", h.sweep(), a);
            due("oldCells()", h.oldCells(), a == 63 ? 0 : a == 60 ? 1 : 60 - a);
        }
        due("sweep()", h.sweep(), 128);
    }

    private static void p16Marked() {
        says(16, "when it is marked, 64 plus its address is answered");
        DirtyCardHeap h = inPhase(1, new DirtyCardHeap());
        pad(h, 63);
        addOld(h, 5, 0);
        h.clear(5);
        h.remark();
        due("marked()", h.marked(), 17);
        for (int a = 0; a < 64; a += a == 60 ? 3 : 4) {
            due("sweep()", h.sweep(), 64 + a);
        }
        due("oldCells()", h.oldCells(), 64);
        due("they stay marked: marked()", h.marked(), 17);
        due("sweep()", h.sweep(), 128);
    }

    private static void p16NoSuchObject() {
        says(16, "When there is no such object, the phase becomes IDLE, no object is marked any more, and 128 is "
                + "answered.");
        DirtyCardHeap h = inPhase(2, new DirtyCardHeap());
        due("no object: sweep()", h.sweep(), 128);
        due("phase()", h.phase(), 0);
        h = inPhase(2, withOld(1, 1));
        h.sweep();
        h.sweep();
        due("phase()", h.phase(), 2);
        due("marked()", h.marked(), 2);
        h.store(0, 0, 1);
        due("sweep()", h.sweep(), 128);
        due("phase()", h.phase(), 0);
        due("marked()", h.marked(), 0);
        due("the cards stay: cards()", h.cards(), 1);
        due("begin()", h.begin(), 2);
    }

    private static void p16Phase() {
        says(16, "PHASE when the phase is not SWEEPING.");
        refused("idle: sweep()", Checks::busyIdle, DirtyCardHeap::sweep, PHASE);
        refused("marking: sweep()", Checks::busyMarking, DirtyCardHeap::sweep, PHASE);
        refused("swept: sweep()", Checks::withHoles, DirtyCardHeap::sweep, PHASE);
    }

    // ---- Promises 17 to 21: what can be asked

    private static void p17Phase() {
        says(17, "The phase: 0 IDLE, 1 MARKING, 2 SWEEPING.");
        due("idle: phase()", busyIdle().phase(), 0);
        due("marking: phase()", busyMarking().phase(), 1);
        due("sweeping: phase()", busySweeping().phase(), 2);
        due("swept: phase()", withHoles().phase(), 0);
        for (int phase = 0; phase < 3; phase++) {
            DirtyCardHeap h = inPhase(phase, withOld(1));
            h.collect(false);
            due("a young collection leaves it: phase()", h.phase(), phase);
            h.collect(true);
            due("a full one ends it: phase()", h.phase(), 0);
        }
    }

    private static void p18OldCells() {
        says(18, "The number of cells that old objects take.");
        due("none: oldCells()", new DirtyCardHeap().oldCells(), 0);
        due("all: oldCells()", filled().oldCells(), 64);
        due("between holes: oldCells()", withHoles().oldCells(), 3);
        DirtyCardHeap h = withOld(3, 2);
        h.create(2, 3, 12);
        h.clear(0);
        due("an unreachable one takes its cells, a young one none: oldCells()", h.oldCells(), 7);
    }

    private static void p19YoungCells() {
        says(19, "The sum of the sizes of the young objects.");
        due("none: youngCells()", new DirtyCardHeap().youngCells(), 0);
        due("all: youngCells()", filled().youngCells(), 20);
        DirtyCardHeap h = withOld(3);
        due("an old one counts not: youngCells()", h.youngCells(), 0);
        h.create(1, 3, 11);
        h.create(1, 0, 12);
        due("an unreachable one counts: youngCells()", h.youngCells(), 5);
        h.collect(false);
        due("youngCells()", h.youngCells(), 1);
    }

    private static void p20Cards() {
        says(20, "The sum, over the dirty cards c, of 2^c, and over the noted cards c, of 2^(c + 8).");
        DirtyCardHeap h = withOldChain(64);
        h.begin();
        storeAlongTheChain(h);
        due("all dirty: cards()", h.cards(), 255);
        h.collect(false);
        due("all noted: cards()", h.cards(), 65280);
        storeAlongTheChain(h);
        due("all both: cards()", h.cards(), 65535);
        h.remark();
        due("cards()", h.cards(), 255);
    }

    private static void storeAlongTheChain(DirtyCardHeap h) {
        h.copy(0, 1);
        for (int i = 0; i < 16; i++) {
            due("store(0, 1, 5)", h.store(0, 1, 5), 0);
            h.load(0, 0, 0);
        }
    }

    private static void p21Marked() {
        says(21, "The number of marked objects, and 1000 times the number of grey ones.");
        DirtyCardHeap h = inPhase(1, new DirtyCardHeap());
        for (int i = 0; i < 64; i++) {
            addOld(h, 5, 0);
        }
        due("64 are marked, none is grey: marked()", h.marked(), 64);
        for (int c = 0; c < 8; c++) {
            h.preclean();
        }
        due("all are grey: marked()", h.marked(), 64064);
        h.mark();
        due("marked()", h.marked(), 63064);
    }

    public static void main(String[] args) throws ReflectiveOperationException {
        run(EdgesOfPromisesTest.class, true);
    }
}
