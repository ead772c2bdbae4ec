/** The document's terms: each sentence that names a boundary case has a test of its own here. */
public final class EdgesOfTermsTest extends Checks {

    // ---- Objects, roots and the two parts

    private static void fieldsAreNoneToThree() {
        says("An OBJECT has a PAYLOAD (an int) and 0 to 3 FIELDS");
        for (int n = 0; n <= 3; n++) {
            DirtyCardHeap h = new DirtyCardHeap();
            due("create(0, " + n + ", 7)", h.create(0, n, 7), 0);
            due("load(1, 0, -1)", h.load(1, 0, -1), NOFIELD);
            for (int k = 0; k < n; k++) {
                due("load(1, 0, " + k + ") of " + n, h.load(1, 0, k), 0);
            }
            due("load(1, 0, " + n + ") of " + n, h.load(1, 0, n), NOFIELD);
        }
        due("create(0, 4, 7)", new DirtyCardHeap().create(0, 4, 7), NOFIELD);
    }

    private static void fieldsHoldOneEachOrNull() {
        says("each of which holds a reference to an object or NULL");
        DirtyCardHeap h = new DirtyCardHeap();
        h.create(0, 3, 7);
        h.create(1, 0, 8);
        h.store(0, 0, 0);
        h.store(0, 2, 1);
        h.load(2, 0, 0);
        due("field 0 holds the object itself: same(2, 0)", h.same(2, 0), true);
        h.load(2, 0, 1);
        due("field 1 holds null: address(2)", h.address(2), NULL);
        h.load(2, 0, 2);
        due("field 2 holds another: same(2, 1)", h.same(2, 1), true);
        h.store(0, 2, 5);
        h.load(2, 0, 2);
        due("field 2 holds null again: address(2)", h.address(2), NULL);
    }

    private static void sizeOfAnObject() {
        says("Its SIZE is 1 plus the number of its fields, in cells");
        for (int n = 0; n <= 3; n++) {
            DirtyCardHeap h = new DirtyCardHeap();
            h.create(0, n, 7);
            due("youngCells() with " + n + " fields", h.youngCells(), 1 + n);
            h.collect(true);
            due("oldCells() with " + n + " fields", h.oldCells(), 1 + n);
        }
    }

    private static void cellsOfAnObject() {
        says("the first cell for the payload, the others for the fields in their order");
        // Where the third object begins, and the cards of its fields' cells.
        int[][] begins = {{2, 1}, {2, 2}, {2, 3}};
        int[] addresses = {5, 6, 7};
        int[][] cards = {{1, 1, 2}, {1, 2, 2}, {2, 2, 2}};
        for (int i = 0; i < 3; i++) {
            for (int k = 0; k < 3; k++) {
                DirtyCardHeap h = withOld(begins[i][0], begins[i][1], 3);
                due("address(2)", h.address(2), addresses[i]);
                h.store(2, k, 2);
                due("cards() for field " + k + " of the object at " + addresses[i], h.cards(), cards[i][k]);
            }
        }
    }

    private static void rootsAreSix() {
        says("There are six ROOTS 0 .. 5, each holding a reference or null");
        DirtyCardHeap h = new DirtyCardHeap();
        for (int r = 0; r < 6; r++) {
            due("null at first: address(" + r + ")", h.address(r), NULL);
            due("create(" + r + ", 0, " + r + ")", h.create(r, 0, 60 + r), 0);
        }
        for (int r = 0; r < 6; r++) {
            due("payload(" + r + ")", h.payload(r), 60 + r);
        }
        due("address(6)", h.address(6), NOROOT);
        due("address(-1)", h.address(-1), NOROOT);
        h.clear(5);
        due("address(5)", h.address(5), NULL);
        due("address(4)", h.address(4), -1);
    }

    private static void youngOldOrGone() {
        says("An object is YOUNG, or OLD, or GONE.");
        DirtyCardHeap h = new DirtyCardHeap();
        h.create(0, 2, 10);
        due("young: age(0)", h.age(0), 0);
        due("address(0)", h.address(0), -1);
        due("youngCells()", h.youngCells(), 3);
        due("oldCells()", h.oldCells(), 0);
        h.collect(true);
        due("old: age(0)", h.age(0), -1);
        due("address(0)", h.address(0), 0);
        due("youngCells()", h.youngCells(), 0);
        due("oldCells()", h.oldCells(), 3);
        h.clear(0);
        h.collect(true);
        due("gone: youngCells()", h.youngCells(), 0);
        due("oldCells()", h.oldCells(), 0);
    }

    private static void theYoungStandInAnOrder() {
        says("The young objects stand in an order, the YOUNG ORDER");
        // An object keeps its place in the order, whatever root or field comes to refer to it.
        DirtyCardHeap h = new DirtyCardHeap();
        h.create(3, 0, 13);
        h.create(4, 1, 14);
        h.create(5, 0, 15);
        h.copy(0, 5);
        h.copy(2, 4);
        h.store(4, 0, 3);
        h.clear(3);
        due("collect(true)", h.collect(true), 3);
        h.load(3, 4, 0);
        due("address(3)", h.address(3), 0);
        due("address(4)", h.address(4), 1);
        due("address(5)", h.address(5), 3);
    }

    private static void reachableByFields() {
        says("An object is REACHABLE when a root refers to it, or a field of a reachable object does.");
        // Root 0 holds an old object, it a young one, that an old one, and that a young one.
        DirtyCardHeap h = withOld(1, 1);
        h.create(2, 1, 12);
        h.create(3, 0, 13);
        h.store(0, 0, 2);
        h.store(2, 0, 1);
        h.store(1, 0, 3);
        h.clear(1);
        h.clear(2);
        h.clear(3);
        due("collect(true)", h.collect(true), 2);
        due("all four are reachable: oldCells()", h.oldCells(), 7);
        h.load(1, 0, 0);
        h.store(0, 0, 5);
        // Now the last three hang on root 1 alone.
        due("collect(true)", h.collect(true), 0);
        due("oldCells()", h.oldCells(), 7);
        h.clear(1);
        h.collect(true);
        due("a field of one that is not reachable does not count: oldCells()", h.oldCells(), 2);
    }

    private static void referencesFollow() {
        says("(References of roots and fields follow an object when it is moved.)");
        DirtyCardHeap h = withOld(3, 1);
        h.create(2, 1, 12);
        h.create(3, 0, 13);
        h.store(1, 0, 2);
        h.store(2, 0, 3);
        h.copy(4, 2);
        h.collect(false);
        due("both become old", h.collect(false), 2);
        due("address(2)", h.address(2), 6);
        due("roots follow: same(4, 2)", h.same(4, 2), true);
        h.load(5, 1, 0);
        due("a field of an old object follows: same(5, 2)", h.same(5, 2), true);
        h.load(5, 2, 0);
        due("a field of a moved object follows: same(5, 3)", h.same(5, 3), true);
        h.clear(0);
        h.collect(true);
        due("it moved down: address(2)", h.address(2), 2);
        due("roots follow: same(4, 2)", h.same(4, 2), true);
        h.load(5, 1, 0);
        due("fields follow: same(5, 2)", h.same(5, 2), true);
        h.load(5, 2, 0);
        due("fields follow: same(5, 3)", h.same(5, 3), true);
        due("payload(5)", h.payload(5), 13);
    }

    private static void youngPartHasTwentyCells() {
        says("THE YOUNG PART has 20 cells.");
        for (int size : new int[] {1, 2, 4}) {
            DirtyCardHeap h = new DirtyCardHeap();
            h.create(0, size - 1, 1);
            for (int cells = 2 * size; cells <= 20; cells += size) {
                h.create(1, size - 1, 2);
            }
            due("full of " + size + ": youngCells()", h.youngCells(), 20);
            due("no collection was made: age(0)", h.age(0), 0);
            h.create(2, 0, 3);
            due("now one was made: age(0)", h.age(0), 1);
            due("youngCells()", h.youngCells(), 2 * size + 1);
        }
    }

    private static void youngSumIsAtMostTwenty() {
        says("the sum of their sizes is at most 20");
        DirtyCardHeap h = new DirtyCardHeap();
        for (int i = 0; i < 250; i++) {
            h.create(i % 6, i % 4, i);
            due("youngCells() <= 20 after create " + i, h.youngCells() <= 20, true);
        }
    }

    private static void agesAreNoneToNine() {
        says("A young object has an AGE 0 .. 9.");
        DirtyCardHeap h = new DirtyCardHeap();
        pad(h, 64);
        h.create(0, 0, 1);
        due("age(0)", h.age(0), 0);
        for (int i = 0; i < 9; i++) {
            h.collect(false);
        }
        due("age(0)", h.age(0), 9);
        h.collect(false);
        due("age(0)", h.age(0), 9);
    }

    private static void oldPartHasSixtyFourCells() {
        says("THE OLD PART has 64 cells with addresses 0 .. 63.");
        DirtyCardHeap h = new DirtyCardHeap();
        for (int a = 0; a < 64; a++) {
            addOld(h, 0, 0);
            due("address(0)", h.address(0), a);
        }
        due("oldCells()", h.oldCells(), 64);
        addOld(h, 0, 0);
        due("there is no 65th: address(0)", h.address(0), -1);
        due("oldCells()", h.oldCells(), 64);
    }

    private static void cellsAreNeighbouring() {
        says("An old object takes as many neighbouring cells as its size says; its ADDRESS is the first of them.");
        DirtyCardHeap h = withOld(0, 1, 2, 3, 0);
        int[] addresses = {0, 1, 3, 6, 10};
        for (int r = 0; r < 5; r++) {
            due("address(" + r + ")", h.address(r), addresses[r]);
        }
        due("oldCells()", h.oldCells(), 11);
    }

    private static void cellsOfTheGoneAreFree() {
        says("Cells that no old object takes are free.");
        DirtyCardHeap h = withOld(0, 3, 0);
        h.clear(1);
        freeGarbage(h);
        due("oldCells()", h.oldCells(), 2);
        addOld(h, 1, 3);
        due("just the cells of the one that is gone: address(1)", h.address(1), 1);
        addOld(h, 3, 0);
        due("and no other: address(3)", h.address(3), 6);
        h.clear(0);
        h.clear(1);
        h.collect(true);
        due("a full collection frees too: oldCells()", h.oldCells(), 2);
        addOld(h, 0, 0);
        due("address(0)", h.address(0), 2);
    }

    private static void placedAtTheLeastAddress() {
        says("An object is PLACED at the least address from which on as many cells as it needs are free");
        int[] places = {0, 0, 3, 7};
        for (int n = 0; n <= 3; n++) {
            DirtyCardHeap h = withHoles();
            addOld(h, 0, n);
            due("with " + n + " fields: address(0)", h.address(0), places[n]);
        }
        DirtyCardHeap h = withHoles();
        addOld(h, 0, 3);
        addOld(h, 2, 3);
        due("all holes are too small now: address(2)", h.address(2), 12);
        addOld(h, 4, 0);
        addOld(h, 4, 1);
        due("what is left of a hole is too small: address(4)", h.address(4), 3);
        addOld(h, 4, 0);
        due("but not for a smaller one: address(4)", h.address(4), 1);

        for (int n = 0; n <= 3; n++) {
            // Holes of 4, 3 and 2 cells: the first is taken, even if a later one would just do.
            h = withOld(3, 0, 2, 0, 1, 0);
            h.clear(0);
            h.clear(2);
            h.clear(4);
            freeGarbage(h);
            addOld(h, 0, n);
            due("with " + n + " fields: address(0)", h.address(0), 0);
        }

        h = withOld(0, 0, 0, 0, 0);
        for (int r = 0; r < 4; r++) {
            h.clear(r);
        }
        freeGarbage(h);
        addOld(h, 0, 3);
        due("holes side by side are one: address(0)", h.address(0), 0);
    }

    private static void placedUpToTheLastCell() {
        says("from which on as many cells as it needs are free");
        for (int n = 0; n <= 3; n++) {
            DirtyCardHeap h = new DirtyCardHeap();
            pad(h, 63 - n);
            addOld(h, 0, n);
            due("just enough cells at the end: address(0)", h.address(0), 63 - n);
            h = new DirtyCardHeap();
            pad(h, 64 - n);
            addOld(h, 0, n);
            due("one cell short at the end: address(0)", h.address(0), -1);
            due("oldCells()", h.oldCells(), 64 - n);
        }
    }

    private static void noPlace() {
        says("it has NO PLACE when there is none");
        DirtyCardHeap h = withOld(1, 0, 2, 0, 3, 0);
        h.clear(0);
        h.clear(2);
        h.clear(4);
        h.begin();
        pad(h, 52);
        finishPhases(h);
        due("2, 3 and 4 cells are free: oldCells()", h.oldCells(), 55);
        addOld(h, 0, 3);
        due("address(0)", h.address(0), 7);
        addOld(h, 0, 3);
        due("5 cells are free, but no 4 side by side: address(0)", h.address(0), -1);
        due("age(0)", h.age(0), 2);
        due("oldCells()", h.oldCells(), 59);
        addOld(h, 2, 2);
        due("address(2)", h.address(2), 3);
        addOld(h, 2, 1);
        due("address(2)", h.address(2), 0);
        addOld(h, 2, 0);
        due("no cell is free: address(2)", h.address(2), -1);
        due("oldCells()", h.oldCells(), 64);
    }

    private static void noPlaceAroundTheEnd() {
        says("An old object takes as many neighbouring cells as its size says");
        DirtyCardHeap h = withOld(2);
        h.clear(0);
        h.begin();
        pad(h, 60);
        finishPhases(h);
        due("cells 0 to 2 and 63 are free: oldCells()", h.oldCells(), 60);
        addOld(h, 0, 3);
        due("the last cell and the first are no neighbours: address(0)", h.address(0), -1);
        addOld(h, 1, 2);
        due("address(1)", h.address(1), 0);
        addOld(h, 2, 0);
        due("address(2)", h.address(2), 63);
    }

    // ---- Cards, marks and phases

    private static void cardsAreEightCellsEach() {
        says("The old part has eight CARDS: card c is the cells 8 c .. 8 c + 7.");
        for (int first = 0; first < 2; first++) {
            DirtyCardHeap h = new DirtyCardHeap();
            pad(h, first);
            for (int a = first; a + 1 < 64; a += 2) {
                addOld(h, 0, 1);
                due("address(0)", h.address(0), a);
                h.store(0, 0, 0);
                due("cards() for cell " + (a + 1), h.cards(), 1 << (a + 1) / 8);
                h.collect(false);
                due("cards()", h.cards(), 0);
            }
        }
    }

    private static void liesOnCards() {
        says("An old object LIES ON a card when one of its cells is there.");
        // Cells 0..2, 3..6, 7..10 (one on card 0), 11..14, 15..16 (one on card 1), 17..18.
        DirtyCardHeap h = withOld(2, 3, 3, 3, 1, 1);
        h.begin();
        for (int i = 0; i < 6; i++) {
            h.mark();
        }
        due("marked()", h.marked(), 6);
        noteAndPreclean(h, 2, 1);
        dueMarks(h, 7, 11, 15);
        noteAndPreclean(h, 0, 0);
        dueMarks(h, 0, 3, 7);
        noteAndPreclean(h, 4, 2);
        dueMarks(h, 15, 17);

        // Cells 0..3, 4..7 and 8..11: none lies on two cards.
        h = withOld(3, 3, 3);
        h.begin();
        dueMarks(h, 0, 4, 8);
        noteAndPreclean(h, 0, 0);
        dueMarks(h, 0, 4);
        noteAndPreclean(h, 2, 1);
        dueMarks(h, 8);
    }

    private static void noteAndPreclean(DirtyCardHeap h, int r, int card) {
        h.store(r, 0, r);
        h.collect(false);
        due("cards()", h.cards(), 256 << card);
        due("preclean()", h.preclean(), card);
    }

    private static void dueMarks(DirtyCardHeap h, int... addresses) {
        for (int a : addresses) {
            due("mark()", h.mark(), a);
        }
        due("mark() at the end", h.mark(), -1);
    }

    private static void dirtyAndNotedAtOnce() {
        says("A card may be DIRTY, and it may be NOTED.");
        DirtyCardHeap h = inPhase(1, withOld(1));
        due("neither: cards()", h.cards(), 0);
        h.store(0, 0, 0);
        due("dirty: cards()", h.cards(), 1);
        h.collect(false);
        due("noted: cards()", h.cards(), 256);
        h.store(0, 0, 0);
        due("both: cards()", h.cards(), 257);
    }

    private static void markedAndGrey() {
        says("An old object may be MARKED, and a marked one may be GREY.");
        DirtyCardHeap h = withOld(1);
        due("marked()", h.marked(), 0);
        h.begin();
        due("marked()", h.marked(), 1001);
        h.mark();
        due("marked()", h.marked(), 1);
        h.store(0, 0, 0);
        h.collect(false);
        h.preclean();
        due("grey again, but marked just once: marked()", h.marked(), 1001);
    }

    private static void phasesAreThree() {
        says("THE PHASE is IDLE (0, at first), MARKING (1) or SWEEPING (2).");
        DirtyCardHeap h = new DirtyCardHeap();
        due("phase()", h.phase(), 0);
        h.begin();
        due("phase()", h.phase(), 1);
        h.remark();
        due("phase()", h.phase(), 2);
        h.sweep();
        due("phase()", h.phase(), 0);
    }

    private static void sweepAddressGoesToSixtyFour() {
        says("While sweeping there is a SWEEP ADDRESS 0 .. 64.");
        DirtyCardHeap h = inPhase(1, new DirtyCardHeap());
        pad(h, 64);
        h.remark();
        for (int a = 0; a < 64; a += 4) {
            due("sweep()", h.sweep(), 64 + a);
        }
        due("at 64 it stands behind the last cell: sweep()", h.sweep(), 128);
        due("phase()", h.phase(), 0);
    }

    // ---- Storing

    private static void storingIntoAnOldObject() {
        says("STORING a reference or null into a field of an old object makes the card of that field's cell "
                + "dirty (whatever is stored).");
        for (int phase = 0; phase < 3; phase++) {
            // Roots 0 and 1 are old, root 2 is young, root 3 is null.
            for (int q = 0; q < 4; q++) {
                DirtyCardHeap h = withOld(1, 1);
                h.create(2, 0, 12);
                inPhase(phase, h);
                due("cards()", h.cards(), 0);
                h.store(1, 0, q);
                due("phase " + phase + ", root " + q + " over null: cards()", h.cards(), 1);
            }
            DirtyCardHeap h = withOld(1, 1);
            h.store(1, 0, 0);
            h.collect(false);
            inPhase(phase, h);
            h.store(1, 0, 0);
            due("phase " + phase + ", the same again: cards()", h.cards(), 1);
        }
    }

    private static void storingIntoAYoungObject() {
        says("Storing into a young object makes none dirty.");
        for (int phase = 0; phase < 3; phase++) {
            DirtyCardHeap h = withOld(1);
            h.create(1, 1, 11);
            inPhase(phase, h);
            for (int q = 0; q < 3; q++) {
                due("store(1, 0, " + q + ")", h.store(1, 0, q), 0);
                due("phase " + phase + ", root " + q + ": cards()", h.cards(), 0);
            }
        }
    }

    // ---- Reaching

    private static void reachedOnce() {
        says("TO REACH a young object (once in a young collection)");
        DirtyCardHeap h = withOld(2);
        h.create(1, 2, 11);
        h.store(0, 0, 1);
        h.store(0, 1, 1);
        h.store(1, 0, 1);
        h.store(1, 1, 1);
        h.copy(2, 1);
        h.copy(5, 1);
        due("collect(false)", h.collect(false), 0);
        due("seven refer to it: age(1)", h.age(1), 1);
        due("youngCells()", h.youngCells(), 3);
        due("collect(false)", h.collect(false), 1);
        due("oldCells()", h.oldCells(), 6);
    }

    private static void ageStopsAtNine() {
        says("its age grows by 1, but not beyond 9");
        DirtyCardHeap h = filled();
        for (int i = 1; i <= 12; i++) {
            h.collect(false);
            due("the age of the first after " + i, h.age(0), Math.min(i, 9));
            h.load(2, 0, 0);
            h.load(2, 2, 0);
            due("the age of the third, which was 1 before, after " + i, h.age(2), Math.min(i + 1, 9));
        }
    }

    private static void becomesOldAtTwo() {
        says("When its age is 2 or more then and it has a place, it becomes old: it is placed");
        DirtyCardHeap h = new DirtyCardHeap();
        h.create(0, 3, 10);
        due("at age 1: collect(false)", h.collect(false), 0);
        due("address(0)", h.address(0), -1);
        due("at age 2: collect(false)", h.collect(false), 1);
        due("address(0)", h.address(0), 0);
        for (int last : new int[] {3, 9, 11}) {
            h = new DirtyCardHeap();
            pad(h, 61);
            h.create(0, 3, 10);
            for (int i = 1; i < last; i++) {
                due("without a place: collect(false)", h.collect(false), 0);
            }
            freeGarbage(h);
            due("age(0)", h.age(0), Math.min(last - 1, 9));
            due("with a place: collect(false)", h.collect(false), 1);
            due("address(0)", h.address(0), 0);
            due("age(0)", h.age(0), -1);
        }
    }

    private static void allItsCardsBecomeDirty() {
        says("all cards that it lies on become dirty");
        // Cells 7..10: the payload on card 0, the fields on card 1.
        DirtyCardHeap h = withOld(2, 3);
        h.create(2, 3, 12);
        h.begin();
        h.collect(false);
        due("collect(false)", h.collect(false), 1);
        due("address(2)", h.address(2), 7);
        due("dirty they were, noted they are: cards()", h.cards(), 768);
        // Cells 5..8: only the last field on card 1; it refers to one that stays young.
        h = withOld(2, 1);
        h.create(2, 3, 12);
        h.collect(false);
        h.create(3, 0, 13);
        h.store(2, 2, 3);
        h.clear(3);
        due("collect(false)", h.collect(false), 1);
        due("address(2)", h.address(2), 5);
        due("cards()", h.cards(), 2);
        due("through the card it is reached: collect(false)", h.collect(false), 1);
        h.load(3, 2, 2);
        due("address(3)", h.address(3), 9);
        due("cards()", h.cards(), 0);
    }

    private static void markedWhenItBecomesOld() {
        says("unless the phase is IDLE, it is marked (not grey)");
        for (int phase = 0; phase < 3; phase++) {
            DirtyCardHeap h = new DirtyCardHeap();
            h.create(0, 1, 10);
            h.create(1, 0, 11);
            h.store(0, 0, 1);
            inPhase(phase, h);
            h.collect(false);
            due("collect(false)", h.collect(false), 2);
            due("phase " + phase + ": marked()", h.marked(), phase == 0 ? 0 : 2);
        }
    }

    private static void staysYoungWithoutAPlace() {
        says("Otherwise it stays young.");
        DirtyCardHeap h = new DirtyCardHeap();
        pad(h, 63);
        h.create(0, 1, 10);
        h.create(1, 0, 11);
        h.create(2, 0, 12);
        h.collect(false);
        due("the next one is placed all the same: collect(false)", h.collect(false), 1);
        due("address(0)", h.address(0), -1);
        due("age(0)", h.age(0), 2);
        due("address(1)", h.address(1), 63);
        due("address(2)", h.address(2), -1);
        due("age(2)", h.age(2), 2);
        due("youngCells()", h.youngCells(), 3);
    }

    // ---- The young collection

    private static void rootsAreReachedInTheirOrder() {
        says("the young objects to which roots refer, roots 0 to 5");
        DirtyCardHeap h = new DirtyCardHeap();
        for (int r : new int[] {5, 3, 0, 4, 1, 2}) {
            h.create(r, 0, r);
        }
        h.collect(false);
        due("collect(false)", h.collect(false), 6);
        for (int r = 0; r < 6; r++) {
            due("address(" + r + ")", h.address(r), r);
        }
    }

    private static void thenTheFieldsOnDirtyCards() {
        says("then those to which fields refer whose cells are on cards that were dirty when the collection began");
        // The fields' cells: 1 to 3, 5 to 7 and 9.
        DirtyCardHeap h = withOld(3, 3, 1);
        storeNew(h, 2, 0, 0);
        storeNew(h, 1, 2, 0);
        storeNew(h, 0, 2, 1);
        h.create(5, 1, 50);
        storeNew(h, 5, 0, 0);
        storeNew(h, 0, 0, 0);
        h.collect(false);
        due("collect(false)", h.collect(false), 6);
        due("first that of root 5", h.address(5), 10);
        dueAddressOfField(h, 0, 0, 12);
        dueAddressOfField(h, 0, 2, 13);
        dueAddressOfField(h, 1, 2, 15);
        dueAddressOfField(h, 2, 0, 16);
        dueAddressOfField(h, 5, 0, 17);
    }

    private static void storeNew(DirtyCardHeap h, int r, int k, int fields) {
        h.create(4, fields, 40);
        h.store(r, k, 4);
        h.clear(4);
    }

    private static void dueAddressOfField(DirtyCardHeap h, int r, int k, int address) {
        h.load(4, r, k);
        due("the address of what field " + k + " of root " + r + " holds", h.address(4), address);
    }

    private static void inTheOrderOfTheCells() {
        says("in the order of the addresses of these cells");
        // One young object hangs on cells 3 and 6, another on cells 5 and 7.
        DirtyCardHeap h = withOld(3, 3);
        storeNew(h, 1, 0, 0);
        h.load(3, 1, 0);
        h.store(1, 2, 3);
        storeNew(h, 1, 1, 0);
        h.load(3, 1, 1);
        h.store(0, 2, 3);
        h.clear(3);
        h.collect(false);
        due("collect(false)", h.collect(false), 2);
        dueAddressOfField(h, 0, 2, 8);
        dueAddressOfField(h, 1, 1, 8);
        dueAddressOfField(h, 1, 0, 9);
        dueAddressOfField(h, 1, 2, 9);
    }

    private static void onlyOfObjectsThatWereOld() {
        says("of objects that were old then");
        // One that becomes old fills the hole below root 1's object, on the same dirty card.
        DirtyCardHeap h = withOld(1, 1);
        h.clear(0);
        freeGarbage(h);
        h.create(0, 1, 10);
        storeNew(h, 0, 0, 0);
        storeNew(h, 1, 0, 0);
        due("cards()", h.cards(), 1);
        h.collect(false);
        due("collect(false)", h.collect(false), 3);
        due("address(0)", h.address(0), 0);
        dueAddressOfField(h, 1, 0, 4);
        dueAddressOfField(h, 0, 0, 5);
    }

    private static void thenTheFieldsOfTheReached() {
        says("Then, for each object that was reached, in the order in which they were reached, the young ones to "
                + "which its fields refer, in the order of the fields.");
        // Root 0 holds a (b c d), b holds (e f), c holds (g); root 1 holds h (i).
        DirtyCardHeap h = new DirtyCardHeap();
        h.create(1, 1, 11);
        storeNew(h, 1, 0, 0);
        h.create(0, 3, 10);
        storeNew(h, 0, 2, 0);
        storeNew(h, 0, 1, 1);
        storeNew(h, 0, 0, 2);
        h.load(2, 0, 0);
        h.load(3, 0, 1);
        storeNew(h, 3, 0, 0);
        storeNew(h, 2, 1, 0);
        storeNew(h, 2, 0, 0);
        h.clear(2);
        h.clear(3);
        h.collect(false);
        due("collect(false)", h.collect(false), 9);
        due("a: address(0)", h.address(0), 0);
        due("h: address(1)", h.address(1), 4);
        dueAddressOfField(h, 0, 0, 6);
        dueAddressOfField(h, 0, 1, 9);
        dueAddressOfField(h, 0, 2, 11);
        dueAddressOfField(h, 1, 0, 12);
        h.load(2, 0, 0);
        dueAddressOfField(h, 2, 0, 13);
        dueAddressOfField(h, 2, 1, 14);
        h.load(2, 0, 1);
        dueAddressOfField(h, 2, 0, 15);
    }

    private static void theUnreachedAreGone() {
        says("Young objects that were not reached are gone.");
        DirtyCardHeap h = withOld(1);
        h.create(1, 1, 11);
        h.create(2, 1, 12);
        h.create(3, 2, 13);
        h.store(1, 0, 2);
        h.store(2, 0, 1);
        h.store(3, 0, 3);
        h.store(3, 1, 0);
        due("youngCells()", h.youngCells(), 7);
        h.clear(2);
        h.collect(false);
        due("one of a ring is enough: youngCells()", h.youngCells(), 7);
        h.clear(1);
        h.clear(3);
        due("a ring, and one that refers to itself: collect(false)", h.collect(false), 0);
        due("youngCells()", h.youngCells(), 0);

        h = withOld(1);
        storeNew(h, 0, 0, 2);
        h.clear(0);
        due("collect(false)", h.collect(false), 0);
        due("what an unreachable old object refers to is reached: youngCells()", h.youngCells(), 3);
    }

    private static void theNewYoungOrder() {
        says("The young order is then the order in which those that stayed young were reached.");
        DirtyCardHeap h = new DirtyCardHeap();
        h.create(5, 0, 50);
        h.create(1, 2, 11);
        storeNew(h, 1, 1, 0);
        storeNew(h, 1, 0, 1);
        h.create(0, 0, 10);
        due("all stay young: collect(false)", h.collect(false), 0);
        due("collect(true)", h.collect(true), 5);
        due("address(0)", h.address(0), 0);
        due("address(1)", h.address(1), 1);
        due("address(5)", h.address(5), 4);
        dueAddressOfField(h, 1, 0, 5);
        dueAddressOfField(h, 1, 1, 7);

        h = new DirtyCardHeap();
        h.create(1, 0, 11);
        h.collect(false);
        h.create(2, 0, 12);
        h.create(0, 0, 10);
        due("one between becomes old: collect(false)", h.collect(false), 1);
        due("collect(true)", h.collect(true), 2);
        due("address(1)", h.address(1), 0);
        due("address(0)", h.address(0), 1);
        due("address(2)", h.address(2), 2);
    }

    private static void cardsThatAreDirtyNoMore() {
        says("At last every dirty card on which no cell of an old object's field refers to a young object is "
                + "dirty no more");
        // Cells 0..3 and 4..7 and 8..11: the second ends at the edge of card 0.
        DirtyCardHeap h = withOld(3, 3, 3);
        storeNew(h, 1, 2, 0);
        h.store(2, 0, 0);
        due("cards()", h.cards(), 3);
        h.collect(false);
        due("cell 7 refers to a young one: cards()", h.cards(), 1);
        due("now it is old: collect(false)", h.collect(false), 1);
        due("cards()", h.cards(), 0);

        // Cells 6..9: the object lies on both cards, its first field is on card 0.
        h = withOld(2, 2, 3);
        storeNew(h, 2, 1, 0);
        h.store(2, 0, 0);
        due("cards()", h.cards(), 3);
        h.collect(false);
        due("cell 8 refers to a young one: cards()", h.cards(), 2);

        h = withOld(1);
        storeNew(h, 0, 0, 0);
        h.clear(0);
        h.collect(false);
        due("the field of an unreachable old object counts: cards()", h.cards(), 1);

        h = withOld(1);
        h.store(0, 0, 0);
        h.clear(0);
        freeGarbage(h);
        due("dirty, though no object is there: cards()", h.cards(), 1);
        h.collect(false);
        due("cards()", h.cards(), 0);
    }

    private static void cardsThatBecomeNoted() {
        says("when the phase is MARKING, it becomes noted");
        for (int phase = 0; phase < 3; phase++) {
            // Card 0 is clean, card 1 refers to an old object, card 2 to a young one.
            DirtyCardHeap h = withOld(3, 3, 3, 3, 1);
            h.create(5, 0, 50);
            h.store(4, 0, 5);
            inPhase(phase, h);
            h.store(2, 0, 0);
            due("cards()", h.cards(), 6);
            h.collect(false);
            due("phase " + phase + ": cards()", h.cards(), phase == 1 ? 4 | 2 << 8 : 4);
            h.collect(false);
            due("phase " + phase + ", later: cards()", h.cards(), phase == 1 ? 6 << 8 : 0);
        }
    }

    private static void cardsAreLookedAtLast() {
        says("At last every dirty card on which no cell of an old object's field refers to a young object");
        // When the collection begins, card 0 refers to no young object; what becomes old there does.
        DirtyCardHeap h = withOld(1);
        h.create(1, 1, 11);
        h.collect(false);
        h.create(2, 0, 12);
        h.store(1, 0, 2);
        h.begin();
        h.store(0, 0, 5);
        due("cards()", h.cards(), 1);
        due("collect(false)", h.collect(false), 1);
        due("address(1)", h.address(1), 2);
        due("address(2)", h.address(2), -1);
        due("it stays dirty, and is not noted: cards()", h.cards(), 1);
    }

    // ---- The full collection

    private static void theUnreachableAreGone() {
        says("All objects that are not reachable are gone.");
        for (int phase = 0; phase < 3; phase++) {
            // A ring of an old and a young object, which only keep one another.
            DirtyCardHeap h = withOld(1, 1);
            h.create(2, 1, 12);
            h.store(1, 0, 2);
            h.store(2, 0, 1);
            h.store(0, 0, 0);
            inPhase(phase, h);
            h.clear(1);
            h.clear(2);
            due("collect(true)", h.collect(true), 0);
            due("phase " + phase + ": oldCells()", h.oldCells(), 2);
            due("phase " + phase + ": youngCells()", h.youngCells(), 0);
            h.clear(0);
            h.collect(true);
            due("one that refers to itself: oldCells()", h.oldCells(), 0);
        }
    }

    private static void theOldMoveDown() {
        says("The old objects move, in the order of their addresses, to the least addresses that keep that order, "
                + "without a gap from 0 on.");
        DirtyCardHeap h = withOld(3, 1, 2, 0, 3, 1);
        h.clear(0);
        h.clear(3);
        h.copy(0, 5);
        h.clear(5);
        due("collect(true)", h.collect(true), 0);
        due("address(1)", h.address(1), 0);
        due("address(2)", h.address(2), 2);
        due("address(4)", h.address(4), 5);
        due("address(0)", h.address(0), 9);
        due("oldCells()", h.oldCells(), 11);
        due("nothing is left to move: collect(true)", h.collect(true), 0);
        due("address(0)", h.address(0), 9);
        h.clear(2);
        h.collect(true);
        due("what lies below the gap stays: address(1)", h.address(1), 0);
        due("address(4)", h.address(4), 2);
        due("address(0)", h.address(0), 6);
    }

    private static void theYoungAreMovedOver() {
        says("Then, in the young order, each young object that has a place becomes old and is placed, until the "
                + "first one that has none");
        // 60 cells are taken: of 2, 1, 1 and 1 cells all but the last have a place.
        DirtyCardHeap h = withOldChain(60);
        h.create(5, 1, 50);
        h.create(4, 0, 40);
        h.create(3, 0, 30);
        h.create(2, 0, 20);
        due("collect(true)", h.collect(true), 3);
        due("the first in the young order: address(5)", h.address(5), 60);
        due("address(4)", h.address(4), 62);
        due("address(3)", h.address(3), 63);
        due("address(2)", h.address(2), -1);
        due("oldCells()", h.oldCells(), 64);

        h = withOldChain(60);
        h.create(5, 3, 50);
        due("just enough cells: collect(true)", h.collect(true), 1);
        due("address(5)", h.address(5), 60);
        due("youngCells()", h.youngCells(), 0);
    }

    private static void thatOneAndAllBehindItStay() {
        says("that one and all behind it stay young, in their order, with their ages");
        DirtyCardHeap h = withOldChain(62);
        h.create(5, 2, 50);
        h.collect(false);
        h.create(3, 0, 30);
        h.create(4, 1, 40);
        due("a smaller one behind it stays too: collect(true)", h.collect(true), 0);
        due("oldCells()", h.oldCells(), 62);
        due("address(3)", h.address(3), -1);
        due("age(5)", h.age(5), 1);
        due("age(3)", h.age(3), 0);
        due("age(4)", h.age(4), 0);
        // Without the chain the order shows.
        h.clear(0);
        h.clear(1);
        due("collect(true)", h.collect(true), 3);
        due("address(5)", h.address(5), 0);
        due("address(3)", h.address(3), 3);
        due("address(4)", h.address(4), 4);
    }

    private static void fullEndsThePhase() {
        says("The phase becomes IDLE, no object is marked, no card is noted");
        for (int phase = 0; phase < 3; phase++) {
            DirtyCardHeap h = withOld(1, 1);
            h.create(2, 0, 12);
            h.collect(false);
            inPhase(phase, h);
            h.store(0, 0, 1);
            h.collect(false);
            h.create(3, 0, 13);
            due("collect(true)", h.collect(true), 1);
            due("phase " + phase + ": phase()", h.phase(), 0);
            due("phase " + phase + ": marked()", h.marked(), 0);
            due("phase " + phase + ": cards()", h.cards(), 0);
            due("phase " + phase + ": begin()", h.begin(), 4);
        }
    }

    private static void exactlyTheseCardsAreDirty() {
        says("exactly those cards are dirty on which a cell of an old object's field refers to a young object");
        // A cell that goes, 15 links of 4 cells each, and one cell that stays: no place for 4 cells then.
        DirtyCardHeap h = new DirtyCardHeap();
        pad(h, 1);
        for (int i = 0; i < 15; i++) {
            link(h, 3, i);
            h.collect(false);
            h.collect(false);
            if (i == 1) {
                h.copy(2, 0);
            }
        }
        addOld(h, 3, 0);
        h.create(4, 3, 14);
        h.store(2, 2, 4);
        h.store(0, 1, 2);
        due("cell 8 refers to a young object, cell 59 to an old one: cards()", h.cards(), 128 | 2);
        due("collect(true)", h.collect(true), 0);
        due("youngCells()", h.youngCells(), 4);
        due("address(2)", h.address(2), 4);
        due("cell 7 does now: cards()", h.cards(), 1);
        h.store(2, 2, 5);
        h.collect(true);
        due("no cell does: cards()", h.cards(), 0);
    }

    // ---- Scanning and refusing

    private static void scanning() {
        says("To SCAN an old object: in the order of its fields, each old object that is not marked and to which a "
                + "field refers becomes marked and grey.");
        DirtyCardHeap h = withOld(3, 1, 0, 3);
        // Root 0's object refers to that of root 1 twice and to itself; root 3's to a young one and to null.
        h.store(0, 0, 1);
        h.store(0, 1, 0);
        h.store(0, 2, 1);
        h.store(1, 0, 2);
        h.create(4, 0, 14);
        h.store(3, 0, 4);
        h.store(3, 2, 0);
        h.clear(1);
        h.clear(2);
        due("begin()", h.begin(), 2);
        due("mark()", h.mark(), 0);
        due("one more, once, and not what that one refers to: marked()", h.marked(), 2003);
        due("mark()", h.mark(), 4);
        due("marked()", h.marked(), 2004);
        due("mark()", h.mark(), 6);
        due("marked()", h.marked(), 1004);
        due("mark()", h.mark(), 7);
        due("neither the young one, nor again one that is marked: marked()", h.marked(), 4);
        due("mark()", h.mark(), -1);
    }

    private static void aRefusedCallChangesNothing() {
        says("A call that answers a code below -1, or false, changes nothing");
        for (int r : NO_ROOTS) {
            refusedInEachPhase("create(" + r + ", 1, 9)", h -> h.create(r, 1, 9), NOROOT);
            refusedInEachPhase("clear(" + r + ")", h -> h.clear(r) ? 1 : 0, 0);
            refusedInEachPhase("copy(" + r + ", 0)", h -> h.copy(r, 0) ? 1 : 0, 0);
            refusedInEachPhase("copy(0, " + r + ")", h -> h.copy(0, r) ? 1 : 0, 0);
            refusedInEachPhase("load(" + r + ", 1, 0)", h -> h.load(r, 1, 0), NOROOT);
            refusedInEachPhase("load(1, " + r + ", 0)", h -> h.load(1, r, 0), NOROOT);
            refusedInEachPhase("store(" + r + ", 0, 1)", h -> h.store(r, 0, 1), NOROOT);
            refusedInEachPhase("store(1, 0, " + r + ")", h -> h.store(1, 0, r), NOROOT);
            refusedInEachPhase("same(" + r + ", 1)", h -> h.same(r, 1) ? 1 : 0, 0);
            refusedInEachPhase("address(" + r + ")", h -> h.address(r), NOROOT);
            refusedInEachPhase("age(" + r + ")", h -> h.age(r), NOROOT);
        }
        for (int n : NO_FIELD_COUNTS) {
            refusedInEachPhase("create(1, " + n + ", 9)", h -> h.create(1, n, 9), NOFIELD);
            refusedInEachPhase("load(2, 1, " + n + ")", h -> h.load(2, 1, n), NOFIELD);
            refusedInEachPhase("store(1, " + n + ", 2)", h -> h.store(1, n, 2), NOFIELD);
        }
        refusedInEachPhase("load(1, 5, 0)", h -> h.load(1, 5, 0), NULL);
        refusedInEachPhase("store(5, 0, 1)", h -> h.store(5, 0, 1), NULL);
        refusedInEachPhase("same(0, 1)", h -> h.same(0, 1) ? 1 : 0, 0);
        refusedInEachPhase("address(5)", h -> h.address(5), NULL);
        refusedInEachPhase("age(5)", h -> h.age(5), NULL);
    }

    private static void aCallOfAnotherPhaseChangesNothing() {
        says("`PHASE = -6`: The phase is another one.");
        due("PHASE", DirtyCardHeap.PHASE, -6);
        refused("idle: mark()", Checks::busyIdle, DirtyCardHeap::mark, PHASE);
        refused("idle: preclean()", Checks::busyIdle, DirtyCardHeap::preclean, PHASE);
        refused("idle: remark()", Checks::busyIdle, DirtyCardHeap::remark, PHASE);
        refused("idle: sweep()", Checks::busyIdle, DirtyCardHeap::sweep, PHASE);
        refused("marking: begin()", Checks::busyMarking, DirtyCardHeap::begin, PHASE);
        refused("marking: sweep()", Checks::busyMarking, DirtyCardHeap::sweep, PHASE);
        refused("sweeping: begin()", Checks::busySweeping, DirtyCardHeap::begin, PHASE);
        refused("sweeping: mark()", Checks::busySweeping, DirtyCardHeap::mark, PHASE);
        refused("sweeping: preclean()", Checks::busySweeping, DirtyCardHeap::preclean, PHASE);
        refused("sweeping: remark()", Checks::busySweeping, DirtyCardHeap::remark, PHASE);
    }

    private static void noMemoryChangesWhatTheCollectionsDo() {
        says("but for NOMEMORY, where it is said");
        for (int phase = 0; phase < 3; phase++) {
            DirtyCardHeap called = inPhase(phase, full());
            DirtyCardHeap collected = inPhase(phase, full());
            due("create(2, 0, 9)", called.create(2, 0, 9), NOMEMORY);
            collected.collect(false);
            collected.collect(true);
            due("oldCells()", called.oldCells(), 62);
            due("what is seen", seen(called), seen(collected));
            due("what follows", goneOn(called), goneOn(collected));
        }
    }

    /** 62 cells of a chain and 2 of garbage in the old part, 20 cells of the chain in the young part. */
    private static DirtyCardHeap full() {
        DirtyCardHeap h = withOldChain(62);
        pad(h, 2);
        for (int i = 0; i < 5; i++) {
            link(h, 3, 70 + i);
        }
        return h;
    }

    private static void theFirstNamedRefusal() {
        says("When several refusals hold, the one that is named first is answered.");
        DirtyCardHeap h = new DirtyCardHeap();
        h.create(0, 1, 10);
        due("create(6, 4, 0)", h.create(6, 4, 0), NOROOT);
        due("load(6, 1, 1)", h.load(6, 1, 1), NOROOT);
        due("load(6, 0, 1)", h.load(6, 0, 1), NOROOT);
        due("load(6, 6, 1)", h.load(6, 6, 1), NOROOT);
        due("load(0, 6, 1)", h.load(0, 6, 1), NOROOT);
        due("load(0, 1, 1)", h.load(0, 1, 1), NULL);
        due("load(0, 1, -1)", h.load(0, 1, -1), NULL);
        due("load(0, 0, 1)", h.load(0, 0, 1), NOFIELD);
        due("store(6, 1, 6)", h.store(6, 1, 6), NOROOT);
        due("store(1, 1, 6)", h.store(1, 1, 6), NOROOT);
        due("store(0, 1, 6)", h.store(0, 1, 6), NOROOT);
        due("store(1, 1, 0)", h.store(1, 1, 0), NULL);
        due("store(1, -1, 0)", h.store(1, -1, 0), NULL);
        due("store(0, 1, 1)", h.store(0, 1, 1), NOFIELD);
    }

    public static void main(String[] args) throws ReflectiveOperationException {
        run(EdgesOfTermsTest.class, true);
    }
}
