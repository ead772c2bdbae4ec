import java.util.ArrayList;
import java.util.HashSet;
import java.util.List;
import java.util.Map;
import java.util.Random;
import java.util.Set;
import java.util.TreeMap;
import java.util.TreeSet;

/** Plays the same runs of calls on the class and on a plain model of the document. */
public final class ModelRunsTest {
    private static final int RUNS = 4000;
    private static final int CALLS = 512;

    /** The calls, in the order of the document. */
    private enum Op {
        CREATE, CLEAR, COPY, LOAD, STORE, PAYLOAD, SAME, ADDRESS, AGE, COLLECT, BEGIN, MARK, PRECLEAN,
        REMARK, SWEEP, PHASE, OLD_CELLS, YOUNG_CELLS, CARDS, MARKED
    }

    /** How often each call comes in a run of one kind; the last number is that of linking. */
    private static final int[][] KINDS = {
        // cr cl cp ld st pa sa ad ag co be ma pr re sw ph oc yc ca mk link
        {12, 4, 4, 8, 12, 2, 2, 3, 3, 5, 2, 4, 3, 2, 6, 1, 2, 2, 4, 4, 0},
        {8, 1, 2, 4, 10, 2, 1, 3, 3, 8, 2, 5, 3, 2, 8, 1, 2, 2, 4, 4, 4},
        {4, 1, 1, 2, 4, 1, 1, 3, 3, 3, 2, 3, 3, 2, 8, 1, 2, 2, 4, 4, 16},
        {20, 2, 2, 4, 8, 1, 1, 3, 3, 1, 3, 3, 3, 2, 6, 1, 2, 2, 4, 4, 12},
        {6, 2, 6, 10, 20, 1, 1, 3, 3, 6, 4, 8, 6, 3, 10, 1, 2, 2, 6, 6, 6},
    };

    private static final TreeMap<String, Integer> seen = new TreeMap<>();
    private static int wrong = 0;

    private static void saw(String what) {
        seen.merge(what, 1, Integer::sum);
    }

    // ---- The model

    private static final class Obj {
        final int payload;
        final Obj[] fields;
        int age = 0;
        boolean marked = false;
        boolean grey = false;

        Obj(int payload, int fields) {
            this.payload = payload;
            this.fields = new Obj[fields];
        }

        int size() {
            return 1 + fields.length;
        }
    }

    private static final class Model {
        final Obj[] roots = new Obj[6];
        List<Obj> young = new ArrayList<>();
        TreeMap<Integer, Obj> old = new TreeMap<>();
        final TreeSet<Integer> dirty = new TreeSet<>();
        final TreeSet<Integer> noted = new TreeSet<>();
        int phase = 0;
        int sweepAddress = 0;

        int addressOf(Obj o) {
            for (Map.Entry<Integer, Obj> e : old.entrySet()) {
                if (e.getValue() == o) {
                    return e.getKey();
                }
            }
            return -1;
        }

        Set<Integer> freeCells() {
            Set<Integer> free = new TreeSet<>();
            for (int a = 0; a < 64; a++) {
                free.add(a);
            }
            old.forEach((a, o) -> {
                for (int i = 0; i < o.size(); i++) {
                    free.remove(a + i);
                }
            });
            return free;
        }

        int placeFor(Obj o) {
            Set<Integer> free = freeCells();
            for (int a = 0; a < 64; a++) {
                Set<Integer> need = new HashSet<>();
                for (int i = 0; i < o.size(); i++) {
                    need.add(a + i);
                }
                if (free.containsAll(need)) {
                    return a;
                }
            }
            return -1;
        }

        Set<Integer> cardsOf(int address, Obj o) {
            Set<Integer> on = new TreeSet<>();
            for (int i = 0; i < o.size(); i++) {
                on.add((address + i) / 8);
            }
            return on;
        }

        Set<Integer> cardsReferringToYoung() {
            Set<Integer> cards = new TreeSet<>();
            old.forEach((a, o) -> {
                for (int k = 0; k < o.fields.length; k++) {
                    if (young.contains(o.fields[k])) {
                        cards.add((a + 1 + k) / 8);
                    }
                }
            });
            return cards;
        }

        int youngCollection() {
            List<Obj> candidates = new ArrayList<>();
            for (Obj root : roots) {
                candidates.add(root);
            }
            old.forEach((a, o) -> {
                for (int k = 0; k < o.fields.length; k++) {
                    if (dirty.contains((a + 1 + k) / 8)) {
                        candidates.add(o.fields[k]);
                    }
                }
            });
            List<Obj> reached = new ArrayList<>();
            int became = 0;
            for (Obj o : candidates) {
                became += reach(o, reached);
            }
            for (int i = 0; i < reached.size(); i++) {
                for (Obj o : reached.get(i).fields) {
                    became += reach(o, reached);
                }
            }
            List<Obj> stayed = new ArrayList<>();
            for (Obj o : reached) {
                if (!old.containsValue(o)) {
                    stayed.add(o);
                }
            }
            young = stayed;
            Set<Integer> kept = cardsReferringToYoung();
            for (int c = 0; c < 8; c++) {
                if (dirty.contains(c) && !kept.contains(c)) {
                    dirty.remove(c);
                    if (phase == 1) {
                        noted.add(c);
                        saw("noted a card");
                    }
                }
            }
            return became;
        }

        int reach(Obj o, List<Obj> reached) {
            if (o == null || !young.contains(o) || reached.contains(o)) {
                return 0;
            }
            reached.add(o);
            o.age = o.age == 9 ? 9 : o.age + 1;
            if (o.age < 2) {
                return 0;
            }
            int a = placeFor(o);
            if (a < 0) {
                saw("no place in a young collection");
                return 0;
            }
            old.put(a, o);
            dirty.addAll(cardsOf(a, o));
            o.marked = phase != 0;
            saw("placed in phase " + phase);
            if (phase == 2) {
                saw(a < sweepAddress ? "placed below the sweep address" : "placed above the sweep address");
            }
            return 1;
        }

        void addReachable(Obj o, Set<Obj> reachable) {
            if (o != null && reachable.add(o)) {
                for (Obj f : o.fields) {
                    addReachable(f, reachable);
                }
            }
        }

        int fullCollection() {
            saw("full collection in phase " + phase);
            Set<Obj> reachable = new HashSet<>();
            for (Obj root : roots) {
                addReachable(root, reachable);
            }
            TreeMap<Integer, Obj> moved = new TreeMap<>();
            int next = 0;
            for (Obj o : old.values()) {
                if (reachable.contains(o)) {
                    moved.put(next, o);
                    next += o.size();
                }
            }
            old = moved;
            young.removeIf(o -> !reachable.contains(o));
            int became = 0;
            while (!young.isEmpty() && placeFor(young.get(0)) >= 0) {
                Obj o = young.remove(0);
                old.put(placeFor(o), o);
                became++;
            }
            if (!young.isEmpty()) {
                saw("full collection that leaves young ones");
            }
            phase = 0;
            old.values().forEach(o -> o.marked = o.grey = false);
            noted.clear();
            dirty.clear();
            dirty.addAll(cardsReferringToYoung());
            return became;
        }

        int youngSum() {
            return young.stream().mapToInt(Obj::size).sum();
        }

        boolean isRoot(int r) {
            return 0 <= r && r <= 5;
        }

        long create(int r, int fields, int payload) {
            if (!isRoot(r)) {
                return -2;
            }
            if (fields < 0 || fields > 3) {
                return -4;
            }
            Obj o = new Obj(payload, fields);
            if (youngSum() + o.size() > 20) {
                youngCollection();
                if (youngSum() + o.size() > 20) {
                    fullCollection();
                    if (youngSum() + o.size() > 20) {
                        saw("no memory");
                        return -5;
                    }
                }
            }
            young.add(o);
            roots[r] = o;
            return 0;
        }

        long loadOrStore(boolean load, int r, int q, int k) {
            if (!isRoot(r) || !isRoot(q)) {
                return -2;
            }
            Obj holder = roots[load ? q : r];
            if (holder == null) {
                return -3;
            }
            if (k < 0 || k >= holder.fields.length) {
                return -4;
            }
            if (load) {
                roots[r] = holder.fields[k];
                boolean lives = roots[r] == null || young.contains(roots[r]) || old.containsValue(roots[r]);
                if (!lives) {
                    saw("LOADED WHAT IS GONE");
                }
            } else {
                holder.fields[k] = roots[q];
                int a = addressOf(holder);
                if (a >= 0) {
                    dirty.add((a + 1 + k) / 8);
                }
            }
            return 0;
        }

        int shade(Obj o) {
            if (o == null || o.marked || !old.containsValue(o)) {
                return 0;
            }
            o.marked = o.grey = true;
            return 1;
        }

        int shadeAll(Obj[] all) {
            int n = 0;
            for (Obj o : all) {
                n += shade(o);
            }
            return n;
        }

        int firstGrey() {
            for (Map.Entry<Integer, Obj> e : old.entrySet()) {
                if (e.getValue().grey) {
                    return e.getKey();
                }
            }
            return -1;
        }

        void greyOn(int card) {
            old.forEach((a, o) -> {
                if (o.marked && cardsOf(a, o).contains(card)) {
                    o.grey = true;
                }
            });
        }

        long preclean() {
            if (phase != 1) {
                return -6;
            }
            if (noted.isEmpty()) {
                return -1;
            }
            int card = noted.pollFirst();
            greyOn(card);
            saw("precleaned");
            return card;
        }

        long remark() {
            if (phase != 1) {
                return -6;
            }
            dirty.forEach(this::greyOn);
            noted.forEach(this::greyOn);
            int n = shadeAll(roots);
            for (Obj o : young) {
                n += shadeAll(o.fields);
            }
            for (int a = firstGrey(); a >= 0; a = firstGrey()) {
                old.get(a).grey = false;
                n += shadeAll(old.get(a).fields);
            }
            noted.clear();
            phase = 2;
            sweepAddress = 0;
            if (n > 0) {
                saw("remark that marked");
            }
            return n;
        }

        long sweep() {
            if (phase != 2) {
                return -6;
            }
            Map.Entry<Integer, Obj> e = old.ceilingEntry(sweepAddress);
            if (e == null) {
                phase = 0;
                old.values().forEach(o -> o.marked = o.grey = false);
                saw("swept to the end");
                return 128;
            }
            sweepAddress = e.getKey() + e.getValue().size();
            if (e.getValue().marked) {
                return 64 + e.getKey();
            }
            old.remove(e.getKey());
            saw("swept away");
            return e.getKey();
        }

        long begin() {
            if (phase != 0) {
                return -6;
            }
            phase = 1;
            noted.clear();
            return shadeAll(roots);
        }

        long mark() {
            if (phase != 1) {
                return -6;
            }
            int a = firstGrey();
            if (a >= 0) {
                old.get(a).grey = false;
                shadeAll(old.get(a).fields);
            }
            return a;
        }

        long where(boolean age, int r) {
            if (!isRoot(r)) {
                return -2;
            }
            if (roots[r] == null) {
                return -3;
            }
            int a = addressOf(roots[r]);
            if (age) {
                return a >= 0 ? -1 : roots[r].age;
            }
            return a;
        }

        long clearOrCopy(int r, boolean copy, int q) {
            if (!isRoot(r) || copy && !isRoot(q)) {
                return 0;
            }
            roots[r] = copy ? roots[q] : null;
            return 1;
        }

        long cardSum() {
            long sum = 0;
            for (int c : dirty) {
                sum += 1L << c;
            }
            for (int c : noted) {
                sum += 1L << c + 8;
            }
            return sum;
        }

        long markedSum() {
            return old.values().stream().mapToInt(o -> (o.marked ? 1 : 0) + (o.grey ? 1000 : 0)).sum();
        }

        long answer(Op op, int x, int y, int z) {
            switch (op) {
                case CREATE: return create(x, y, z);
                case CLEAR: return clearOrCopy(x, false, 0);
                case COPY: return clearOrCopy(x, true, y);
                case LOAD: return loadOrStore(true, x, y, z);
                case STORE: return loadOrStore(false, x, y, z);
                case PAYLOAD: return isRoot(x) && roots[x] != null ? roots[x].payload : 0;
                case SAME: return isRoot(x) && isRoot(y) && roots[x] == roots[y] ? 1 : 0;
                case ADDRESS: return where(false, x);
                case AGE: return where(true, x);
                case COLLECT: return x == 0 ? fullCollection() : youngCollection();
                case BEGIN: return begin();
                case MARK: return mark();
                case PRECLEAN: return preclean();
                case REMARK: return remark();
                case SWEEP: return sweep();
                case PHASE: return phase;
                case OLD_CELLS: return old.values().stream().mapToInt(Obj::size).sum();
                case YOUNG_CELLS: return youngSum();
                case CARDS: return cardSum();
                default: return markedSum();
            }
        }
    }

    // ---- The class

    private static long answer(DirtyCardHeap h, Op op, int x, int y, int z) {
        switch (op) {
            case CREATE: return h.create(x, y, z);
            case CLEAR: return h.clear(x) ? 1 : 0;
            case COPY: return h.copy(x, y) ? 1 : 0;
            case LOAD: return h.load(x, y, z);
            case STORE: return h.store(x, z, y);
            case PAYLOAD: return h.payload(x);
            case SAME: return h.same(x, y) ? 1 : 0;
            case ADDRESS: return h.address(x);
            case AGE: return h.age(x);
            case COLLECT: return h.collect(x == 0);
            case BEGIN: return h.begin();
            case MARK: return h.mark();
            case PRECLEAN: return h.preclean();
            case REMARK: return h.remark();
            case SWEEP: return h.sweep();
            case PHASE: return h.phase();
            case OLD_CELLS: return h.oldCells();
            case YOUNG_CELLS: return h.youngCells();
            case CARDS: return h.cards();
            default: return h.marked();
        }
    }

    // ---- The runs

    private static final class Run {
        final int number;
        final Random random;
        final int[] kind;
        final DirtyCardHeap heap = new DirtyCardHeap();
        final Model model = new Model();
        int calls = 0;
        boolean right = true;

        Run(int number) {
            this.number = number;
            this.random = new Random(number);
            this.kind = KINDS[number % KINDS.length];
        }

        void play() {
            while (calls < CALLS && right) {
                int pick = pick();
                if (pick == Op.values().length) {
                    link();
                } else {
                    Op op = Op.values()[pick];
                    int second = op == Op.CREATE ? field() : root();
                    call(op, root(), second, op == Op.CREATE ? random.nextInt() : field());
                }
            }
        }

        int pick() {
            int sum = 0;
            for (int weight : kind) {
                sum += weight;
            }
            int left = random.nextInt(sum);
            int i = 0;
            while (left >= kind[i]) {
                left -= kind[i];
                i++;
            }
            return i;
        }

        /** Puts a new object in front of the chain of root 1, so that much stays reachable. */
        void link() {
            int fields = 1 + random.nextInt(3);
            call(Op.CREATE, 0, fields, calls);
            call(Op.STORE, 0, 1, random.nextInt(fields));
            call(Op.COPY, 1, 0, 0);
        }

        int root() {
            if (random.nextInt(40) == 0) {
                int[] no = {-1, 6, Integer.MIN_VALUE, Integer.MAX_VALUE};
                return no[random.nextInt(no.length)];
            }
            return random.nextInt(6);
        }

        int field() {
            if (random.nextInt(40) == 0) {
                int[] no = {-1, 4, Integer.MIN_VALUE, Integer.MAX_VALUE};
                return no[random.nextInt(no.length)];
            }
            return random.nextInt(4);
        }

        void call(Op op, int x, int y, int z) {
            if (!right || calls >= CALLS) {
                return;
            }
            calls++;
            long want = model.answer(op, x, y, z);
            long got = ModelRunsTest.answer(heap, op, x, y, z);
            if (got != want) {
                right = false;
                wrong++;
                System.out.println("run " + number + ", call " + calls + ": " + op + "(" + x + ", " + y + ", "
                        + z + ") answered " + got + ", due is " + want);
            }
        }
    }

    /** The runs are worth little unless they come to these. */
    private static void mustHaveSeen(String... all) {
        for (String what : all) {
            if (seen.getOrDefault(what, 0) < 50) {
                wrong++;
                System.out.println("the runs hardly came to this: " + what);
            }
        }
    }

    public static void main(String[] args) {
        for (int i = 0; i < RUNS && wrong < 10; i++) {
            new Run(i).play();
        }
        mustHaveSeen("noted a card", "no place in a young collection", "placed in phase 0", "placed in phase 1",
                "placed in phase 2", "placed below the sweep address", "placed above the sweep address",
                "full collection in phase 0", "full collection in phase 1", "full collection in phase 2",
                "full collection that leaves young ones", "no memory", "precleaned", "remark that marked",
                "swept to the end", "swept away");
        if (seen.containsKey("LOADED WHAT IS GONE")) {
            wrong++;
            System.out.println("the model lost an object that was reachable");
        }
        System.out.println(RUNS + " runs, " + wrong + " not as due; the model saw " + seen);
        if (wrong != 0) {
            System.exit(1);
        }
    }
}
