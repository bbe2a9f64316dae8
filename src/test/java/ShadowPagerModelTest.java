import java.util.HashMap;
import java.util.Map;
import java.util.Random;

/** Long mixed runs, each answer compared with a second, differently built reading of the document. */
public final class ShadowPagerModelTest {
    private static final int RUNS = 2000;
    private static final int CALLS = 500;

    private static final class Entry {
        final int target;
        final int rights;
        boolean touched;
        boolean changed;

        Entry(int target, int rights) {
            this.target = target;
            this.rights = rights & 7;
        }
    }

    /** An entry that is nothing is absent from its map. */
    private static final class Model {
        final Map<String, Entry> guest = new HashMap<>();
        final Map<Integer, Entry> host = new HashMap<>();
        final Map<String, Integer> cells = new HashMap<>();
        int present = 0;
        int last = 0;

        static boolean within(int number, int low, int high) {
            return low <= number && number <= high;
        }

        int setGuest(int space, int page, int middle, int rights) {
            if (!within(space, 0, 1) || !within(page, 0, 7) || !within(middle, -1, 7)) {
                return -1;
            }
            guest.remove(space + "/" + page);
            if (middle != -1) {
                guest.put(space + "/" + page, new Entry(middle, rights));
            }
            return 0;
        }

        int setHost(int middle, int frame, int rights) {
            if (!within(middle, 0, 7) || !within(frame, -1, 7)) {
                return -1;
            }
            host.remove(middle);
            if (frame != -1) {
                host.put(middle, new Entry(frame, rights));
            }
            return 0;
        }

        int access(int page, int cell, int right) {
            if (!within(page, 0, 7) || !within(cell, 0, 3)) {
                return -1;
            }
            Entry g = guest.get(present + "/" + page);
            if (g == null || (g.rights & right) == 0) {
                return -2;
            }
            Entry h = host.get(g.target);
            if (h == null || (h.rights & right) == 0) {
                return -3;
            }
            g.touched = true;
            g.changed |= right == 2;
            h.changed |= right == 2;
            return h.target;
        }

        int load(int page, int cell) {
            int frame = access(page, cell, 1);
            if (frame >= 0) {
                last = frameCell(frame, cell);
            }
            return Math.min(frame, 0);
        }

        int store(int page, int cell, int value) {
            int frame = access(page, cell, 2);
            if (frame >= 0) {
                cells.put(frame + "/" + cell, value);
            }
            return Math.min(frame, 0);
        }

        int marks(int space, int page) {
            if (!within(space, 0, 1) || !within(page, 0, 7)) {
                return -1;
            }
            Entry g = guest.get(space + "/" + page);
            return g == null ? 0 : (g.touched ? 1 : 0) + (g.changed ? 2 : 0);
        }

        int hostMark(int middle) {
            if (!within(middle, 0, 7)) {
                return -1;
            }
            Entry h = host.get(middle);
            return h != null && h.changed ? 1 : 0;
        }

        int age(int space) {
            if (!within(space, 0, 1)) {
                return -1;
            }
            int on = 0;
            for (Map.Entry<String, Entry> e : guest.entrySet()) {
                if (e.getKey().startsWith(space + "/") && e.getValue().touched) {
                    e.getValue().touched = false;
                    on++;
                }
            }
            return on;
        }

        int frameCell(int frame, int cell) {
            return cells.getOrDefault(frame + "/" + cell, 0);
        }
    }

    private final Random random;
    private final ShadowPager pager = new ShadowPager();
    private final Model model = new Model();
    private String call = "";

    private ShadowPagerModelTest(long seed) {
        random = new Random(seed);
    }

    private int pick(int low, int high) {
        int chance = random.nextInt(60);
        if (chance == 0) {
            return random.nextInt();
        }
        if (chance == 1) {
            return low - 1;
        }
        if (chance == 2) {
            return high + 1;
        }
        return low + random.nextInt(high - low + 1);
    }

    /** Makes one call on both; answers whether they agree. */
    private boolean step() {
        int space = pick(0, 1);
        int page = pick(0, 7);
        int cell = pick(0, 3);
        int target = pick(-1, 7);
        int rights = random.nextInt(3) == 0 ? random.nextInt() : 7;
        int got = 0;
        int want = 0;
        call = "space " + space + ", page " + page + ", cell " + cell + ", target " + target + ", rights " + rights;
        switch (random.nextInt(14)) {
            case 0: call = "setGuest: " + call;
                got = pager.setGuest(space, page, target, rights); want = model.setGuest(space, page, target, rights); break;
            case 1: call = "setHost: " + call;
                got = pager.setHost(page, target, rights); want = model.setHost(page, target, rights); break;
            case 2: call = "change: " + call;
                pager.change(space); model.present = Math.floorMod(space, 2); break;
            case 3: case 4: call = "load: " + call;
                got = pager.load(page, cell); want = model.load(page, cell); break;
            case 5: case 6: call = "store: " + call;
                got = pager.store(page, cell, rights); want = model.store(page, cell, rights); break;
            case 7: call = "fetch: " + call;
                got = pager.fetch(page); want = model.access(page, 0, 4); break;
            case 8: case 9: call = "last: " + call;
                got = pager.last(); want = model.last; break;
            case 10: call = "marks: " + call;
                got = pager.marks(space, page); want = model.marks(space, page); break;
            case 11: call = "hostMark: " + call;
                got = pager.hostMark(page); want = model.hostMark(page); break;
            case 12: call = "age: " + call;
                got = pager.age(space); want = model.age(space); break;
            default: call = "frameCell: " + call;
                got = pager.frameCell(page, cell); want = model.frameCell(page, cell); break;
        }
        call = call + " answered " + got + ", due is " + want;
        return got == want;
    }

    public static void main(String[] args) {
        int wrong = 0;
        for (int run = 0; run < RUNS; run++) {
            // The seed is the run's number, so that every run of the test makes the same calls.
            ShadowPagerModelTest test = new ShadowPagerModelTest(run);
            for (int i = 0; i < CALLS; i++) {
                if (!test.step()) {
                    wrong++;
                    System.out.println("run " + run + ", call " + i + ": " + test.call);
                    break;
                }
            }
        }
        System.out.println(wrong == 0 ? "all answers are as due" : wrong + " runs are not as due");
        if (wrong != 0) {
            System.exit(1);
        }
    }
}
