import java.lang.reflect.InvocationTargetException;
import java.lang.reflect.Method;
import java.util.Comparator;
import java.util.Objects;
import java.util.TreeMap;
import java.util.function.Supplier;
import java.util.function.ToLongFunction;
import java.util.stream.Stream;

/** What the tests have in common: comparing answers, and heaps in the state that a test wants. */
abstract class Checks {
    static final int NOROOT = -2;
    static final int NULL = -3;
    static final int NOFIELD = -4;
    static final int NOMEMORY = -5;
    static final int PHASE = -6;

    static final int[] NO_ROOTS = {-1, 6, 7, Integer.MIN_VALUE, Integer.MAX_VALUE};
    static final int[] NO_FIELD_COUNTS = {-1, 4, Integer.MIN_VALUE, Integer.MAX_VALUE};

    private static String test = "";
    private static String sentence = "";
    private static final TreeMap<String, String> sentences = new TreeMap<>();
    private static int asked = 0;
    private static int wrong = 0;

    // ---- Comparing

    static void due(String call, String got, String want) {
        asked++;
        if (!Objects.equals(got, want)) {
            fail(call + " answered " + got + ", due is " + want
                    + (sentence.isEmpty() ? "" : ": '" + sentence + "'"));
        }
    }

    private static void fail(String why) {
        wrong++;
        System.out.println(test + ": " + why);
    }

    static void due(String call, long got, long want) {
        due(call, Long.toString(got), Long.toString(want));
    }

    static void due(String call, boolean got, boolean want) {
        due(call, Boolean.toString(got), Boolean.toString(want));
    }

    /** The words of the document that the test is about; no two tests are about the same ones. */
    static void says(String words) {
        sentence = words;
        String other = sentences.put(words, test);
        if (other != null) {
            fail("its sentence is that of " + other + ": '" + words + "'");
        }
    }

    /** The same for words of a promise, which may stand in others too. */
    static void says(int promise, String words) {
        says("Promise " + promise + ": " + words);
    }

    /** A refused call answers its code, and the heap goes on as one that was not called. */
    static void refused(String call, Supplier<DirtyCardHeap> heap, ToLongFunction<DirtyCardHeap> made, long code) {
        DirtyCardHeap called = heap.get();
        due(call, made.applyAsLong(called), code);
        due("what is seen after " + call, seen(called), seen(heap.get()));
        due("what follows after " + call, goneOn(called), goneOn(heap.get()));
    }

    /** The same in each phase, and where no card is dirty. */
    static void refusedInEachPhase(String call, ToLongFunction<DirtyCardHeap> made, long code) {
        refused("quiet: " + call, Checks::quiet, made, code);
        refused("idle: " + call, Checks::busyIdle, made, code);
        refused("marking: " + call, Checks::busyMarking, made, code);
        refused("sweeping: " + call, Checks::busySweeping, made, code);
    }

    /** Runs every method that takes nothing and answers nothing, in the order of the names. */
    static void run(Class<?> tests, boolean eachHasItsSentence) throws ReflectiveOperationException {
        Method[] methods = Stream.of(tests.getDeclaredMethods())
                .filter(m -> m.getParameterCount() == 0 && m.getReturnType() == void.class && !m.isSynthetic())
                .sorted(Comparator.comparing(Method::getName))
                .toArray(Method[]::new);
        for (Method m : methods) {
            test = m.getName();
            sentence = "";
            int before = asked;
            m.setAccessible(true);
            try {
                m.invoke(null);
            } catch (InvocationTargetException e) {
                fail("a call threw " + e.getCause());
            }
            if (asked == before) {
                fail("it asks nothing");
            }
            if (sentence.isEmpty() == eachHasItsSentence) {
                fail(eachHasItsSentence ? "it names no sentence" : "it names a sentence");
            }
        }
        System.out.println(methods.length + " tests, " + asked + " answers, " + wrong + " not as due");
        if (wrong != 0 || methods.length == 0) {
            System.exit(1);
        }
    }

    // ---- Looking at a heap

    /** All that can be asked without a change. */
    static String seen(DirtyCardHeap h) {
        StringBuilder s = new StringBuilder();
        for (int r = 0; r < 6; r++) {
            s.append(r).append(':').append(h.address(r)).append(',').append(h.age(r)).append(',')
                    .append(h.payload(r));
            for (int q = 0; q < r; q++) {
                s.append(h.same(r, q) ? "=" + q : "");
            }
            s.append(' ');
        }
        return s.append("phase ").append(h.phase()).append(" old ").append(h.oldCells()).append(" young ")
                .append(h.youngCells()).append(" cards ").append(h.cards()).append(" marked ")
                .append(h.marked()).toString();
    }

    /** What the heap answers when its phases are gone through and its objects are looked at. */
    static String goneOn(DirtyCardHeap h) {
        StringBuilder s = new StringBuilder();
        appendUntilNegative(s.append(" mark"), h::mark);
        appendUntilNegative(s.append(" preclean"), h::preclean);
        s.append(" remark ").append(h.remark());
        appendUntilNegative(s.append(" sweep"), h::sweep);
        s.append(" collect ").append(h.collect(true)).append(' ').append(seen(h));
        for (int r = 0; r < 5; r++) {
            for (int k = 0; k < 3; k++) {
                s.append(' ').append(h.load(5, r, k)).append(',').append(h.address(5)).append(',')
                        .append(h.payload(5)).append(',').append(h.age(5));
            }
        }
        return s.toString();
    }

    private static void appendUntilNegative(StringBuilder s, Supplier<Integer> call) {
        int answer = 0;
        for (int i = 0; i < 70 && answer >= 0; i++) {
            answer = call.get();
            s.append(' ').append(answer);
        }
    }

    // ---- Heaps in the state that a test wants

    /** Old objects with so many fields each, in roots 0 on, from address 0 on; no card dirty. */
    static DirtyCardHeap withOld(int... fields) {
        DirtyCardHeap h = new DirtyCardHeap();
        for (int r = 0; r < fields.length; r++) {
            h.create(r, fields[r], 100 + r);
        }
        h.collect(false);
        h.collect(false);
        return h;
    }

    /** A new object in root r, which two young collections make old if it has a place. */
    static void addOld(DirtyCardHeap h, int r, int fields) {
        h.create(r, fields, 100 + r);
        h.collect(false);
        h.collect(false);
    }

    /** Takes so many cells of the old part for objects that nothing refers to; root 5 becomes null. */
    static void pad(DirtyCardHeap h, int cells) {
        for (int left = cells; left > 0; left -= 4) {
            addOld(h, 5, Math.min(left, 4) - 1);
        }
        h.clear(5);
    }

    /** Roots 1, 3 and 5 hold old objects of one cell at 2, 6 and 11; cells 0, 1, 3 to 5 and 7 to 10 are free. */
    static DirtyCardHeap withHoles() {
        DirtyCardHeap h = withOld(1, 0, 2, 0, 3, 0);
        h.clear(0);
        h.clear(2);
        h.clear(4);
        freeGarbage(h);
        return h;
    }

    /** A chain of old objects in roots 0 and 1 that takes so many cells, 2 at the least. */
    static DirtyCardHeap withOldChain(int cells) {
        DirtyCardHeap h = new DirtyCardHeap();
        int left = cells;
        while (left > 0) {
            // A link has 2 cells at the least, so a single one must not be left over.
            int size = left == 5 ? 3 : Math.min(left, 4);
            link(h, size - 1, left);
            h.collect(true);
            left -= size;
        }
        return h;
    }

    /** Goes from IDLE to this phase. */
    static DirtyCardHeap inPhase(int phase, DirtyCardHeap h) {
        if (phase >= 1) {
            h.begin();
        }
        if (phase == 2) {
            h.remark();
        }
        return h;
    }

    /** Goes through the phases from IDLE on, so that unreachable old objects are gone. */
    static void freeGarbage(DirtyCardHeap h) {
        h.begin();
        finishPhases(h);
    }

    /** Goes on from MARKING until the phase is IDLE again. */
    static void finishPhases(DirtyCardHeap h) {
        h.remark();
        for (int i = 0; i < 65 && h.phase() == 2; i++) {
            h.sweep();
        }
    }

    /** Puts a new object in front of the chain of root 1, whose links are their fields 0. */
    static int link(DirtyCardHeap h, int fields, int payload) {
        int answer = h.create(0, fields, payload);
        h.store(0, 0, 1);
        h.copy(1, 0);
        return answer;
    }

    /**
     * A chain of 16 old and 5 young objects of 4 cells each in roots 0 and 1, so that both parts are
     * full of what is reachable; the payloads are 21 for the first link to 1 for the last.
     */
    static DirtyCardHeap filled() {
        DirtyCardHeap h = new DirtyCardHeap();
        for (int i = 1; i <= 21; i++) {
            due("making link " + i, link(h, 3, i), 0);
        }
        return h;
    }

    /**
     * Roots 0 to 3 hold old objects with 1, 3, 0 and 2 fields at 0, 2, 6 and 7, root 4 a young one
     * with 2 fields, root 5 is null; no card is dirty.
     */
    static DirtyCardHeap quiet() {
        DirtyCardHeap h = withOld(1, 3, 0, 2);
        h.create(4, 2, 44);
        return h;
    }

    /** As in quiet(), but a card is dirty; the roots are the same in the two that follow. */
    static DirtyCardHeap busyIdle() {
        DirtyCardHeap h = quiet();
        h.store(4, 0, 1);
        h.store(1, 2, 4);
        return h;
    }

    /** Some are grey, some are not marked; a card is dirty and noted, another is noted. */
    static DirtyCardHeap busyMarking() {
        DirtyCardHeap h = withOld(1, 3, 0, 2, 1);
        h.clear(4);
        h.store(0, 0, 1);
        h.clear(1);
        h.begin();
        h.mark();
        h.load(1, 0, 0);
        h.store(3, 1, 2);
        h.collect(false);
        h.create(4, 2, 44);
        h.store(1, 2, 4);
        return h;
    }

    /** One is swept, and there is garbage at 10 that has yet to be swept. */
    static DirtyCardHeap busySweeping() {
        DirtyCardHeap h = withOld(1, 3, 0, 2, 1);
        h.clear(4);
        h.begin();
        h.remark();
        h.sweep();
        h.create(4, 2, 44);
        h.store(1, 2, 4);
        return h;
    }
}
