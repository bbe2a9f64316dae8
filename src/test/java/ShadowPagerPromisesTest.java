import java.lang.reflect.Constructor;
import java.lang.reflect.Field;
import java.lang.reflect.Method;
import java.lang.reflect.Modifier;
import java.util.Arrays;
import java.util.TreeSet;

/** One method for each promise of the document, named after it. */
public final class ShadowPagerPromisesTest {
    private static final int BAD = -1;
    private static final int GUEST = -2;
    private static final int HOST = -3;
    private static final int[] NOT_SPACES = {-1, 2, 3, 8, 256, Integer.MIN_VALUE, Integer.MAX_VALUE};
    private static final int[] NOT_PAGES = {-1, 8, 9, 16, -8, 256, Integer.MIN_VALUE, Integer.MAX_VALUE};
    private static final int[] NOT_PAGES_NOR_NOTHING = {-2, 8, 9, 16, -8, 256, Integer.MIN_VALUE, Integer.MAX_VALUE};
    private static final int[] NOT_CELLS = {-1, 4, 5, 8, -4, 256, Integer.MIN_VALUE, Integer.MAX_VALUE};

    private static int wrong = 0;
    private static String part = "";

    public static void main(String[] args) {
        face();
        promise1NewObject();
        promise2SetGuest();
        promise2WrongInputs();
        promise3SetHost();
        promise3WrongInputs();
        promise4Change();
        promise5Load();
        promise6Store();
        promise7Fetch();
        accessWithEveryPairOfRights();
        promise8Last();
        promise9Marks();
        promise10HostMark();
        promise11Age();
        promise12FrameCell();
        promise13OrderAndLimits();
        System.out.println(wrong == 0 ? "all answers are as due" : wrong + " answers are not as due");
        if (wrong != 0) {
            System.exit(1);
        }
    }

    private static void due(String call, long got, long want) {
        if (got != want) {
            wrong++;
            System.out.println(part + ": " + call + " answered " + got + ", due is " + want);
        }
    }

    private static void dueText(String what, String got, String want) {
        if (!got.equals(want)) {
            wrong++;
            System.out.println(part + ": " + what + " is " + got + ", due is " + want);
        }
    }

    /** Space 0 is present and its page 0 reaches frame 5 through middle page 3 with all rights. */
    private static ShadowPager mapped() {
        ShadowPager x = new ShadowPager();
        x.setGuest(0, 0, 3, 7);
        x.setHost(3, 5, 7);
        return x;
    }

    private static void face() {
        part = "face";
        due("BAD", ShadowPager.BAD, BAD);
        due("GUEST", ShadowPager.GUEST, GUEST);
        due("HOST", ShadowPager.HOST, HOST);
        TreeSet<String> open = new TreeSet<>();
        for (Field f : ShadowPager.class.getDeclaredFields()) {
            if (!Modifier.isPrivate(f.getModifiers())) {
                open.add(Modifier.toString(f.getModifiers()) + " " + f.getType() + " " + f.getName());
            }
        }
        for (Constructor<?> c : ShadowPager.class.getDeclaredConstructors()) {
            open.add(c.toString());
        }
        for (Method m : ShadowPager.class.getDeclaredMethods()) {
            if (!Modifier.isPrivate(m.getModifiers())) {
                open.add(m.toString());
            }
        }
        TreeSet<String> asked = new TreeSet<>(Arrays.asList(
            "public static final int BAD",
            "public static final int GUEST",
            "public static final int HOST",
            "public ShadowPager()",
            "public int ShadowPager.setGuest(int,int,int,int)",
            "public int ShadowPager.setHost(int,int,int)",
            "public void ShadowPager.change(int)",
            "public int ShadowPager.load(int,int)",
            "public int ShadowPager.store(int,int,int)",
            "public int ShadowPager.fetch(int)",
            "public int ShadowPager.last()",
            "public int ShadowPager.marks(int,int)",
            "public int ShadowPager.hostMark(int)",
            "public int ShadowPager.age(int)",
            "public int ShadowPager.frameCell(int,int)"));
        dueText("the public face", open.toString(), asked.toString());
        dueText("the class", Modifier.toString(ShadowPager.class.getModifiers()), "public final");
    }

    private static void promise1NewObject() {
        part = "promise 1";
        ShadowPager x = new ShadowPager();
        due("last()", x.last(), 0);
        for (int space = 0; space < 2; space++) {
            x.change(space);
            for (int page = 0; page < 8; page++) {
                due("load(" + page + ", 0)", x.load(page, 0), GUEST);
                due("store(" + page + ", 0, 1)", x.store(page, 0, 1), GUEST);
                due("fetch(" + page + ")", x.fetch(page), GUEST);
                due("marks(" + space + ", " + page + ")", x.marks(space, page), 0);
            }
            due("age(" + space + ")", x.age(space), 0);
        }
        for (int frame = 0; frame < 8; frame++) {
            for (int cell = 0; cell < 4; cell++) {
                due("frameCell(" + frame + ", " + cell + ")", x.frameCell(frame, cell), 0);
            }
        }
        for (int middle = 0; middle < 8; middle++) {
            due("hostMark(" + middle + ")", x.hostMark(middle), 0);
            x.setGuest(1, 0, middle, 7);
            due("load(0, 0) by middle page " + middle, x.load(0, 0), HOST);
        }
        newObjectIsInSpace0();
        objectsAreApart();
    }

    private static void newObjectIsInSpace0() {
        ShadowPager x = new ShadowPager();
        x.setGuest(0, 2, 2, 7);
        x.setHost(2, 2, 7);
        due("load(2, 0) by space 0", x.load(2, 0), 0);
        ShadowPager y = new ShadowPager();
        y.setGuest(1, 2, 2, 7);
        y.setHost(2, 2, 7);
        due("load(2, 0) by space 1", y.load(2, 0), GUEST);
    }

    private static void objectsAreApart() {
        ShadowPager x = mapped();
        ShadowPager y = new ShadowPager();
        x.store(0, 0, 12);
        x.load(0, 0);
        due("load(0, 0) on another object", y.load(0, 0), GUEST);
        due("frameCell(5, 0) on another object", y.frameCell(5, 0), 0);
        due("last() on another object", y.last(), 0);
        due("hostMark(3) on another object", y.hostMark(3), 0);
    }

    private static void promise2SetGuest() {
        part = "promise 2";
        for (int space = 0; space < 2; space++) {
            ShadowPager x = new ShadowPager();
            x.change(space);
            for (int middle = 0; middle < 8; middle++) {
                x.setHost(middle, 7 - middle, 7);
            }
            for (int page = 0; page < 8; page++) {
                int middle = page * 3 + 1 & 7;
                due("setGuest(" + space + ", " + page + ", " + middle + ", 7)", x.setGuest(space, page, middle, 7), 0);
            }
            for (int page = 0; page < 8; page++) {
                due("fetch(" + page + ")", x.fetch(page), 7 - (page * 3 + 1 & 7));
            }
            x.change(1 - space);
            for (int page = 0; page < 8; page++) {
                due("fetch(" + page + ") in the other space", x.fetch(page), GUEST);
            }
        }
        setGuestMasksRights();
        setGuestToNothing();
    }

    private static void setGuestMasksRights() {
        ShadowPager x = mapped();
        due("setGuest(0, 0, 3, 8)", x.setGuest(0, 0, 3, 8), 0);
        due("load(0, 0) with rights 8", x.load(0, 0), GUEST);
        due("store(0, 0, 1) with rights 8", x.store(0, 0, 1), GUEST);
        due("fetch(0) with rights 8", x.fetch(0), GUEST);
        due("setGuest(0, 0, 3, 9)", x.setGuest(0, 0, 3, 9), 0);
        due("load(0, 0) with rights 9", x.load(0, 0), 0);
        due("store(0, 0, 1) with rights 9", x.store(0, 0, 1), GUEST);
        due("setGuest(0, 0, 3, -1)", x.setGuest(0, 0, 3, -1), 0);
        due("fetch(0) with rights -1", x.fetch(0), 5);
        due("setGuest(0, 0, 3, MIN)", x.setGuest(0, 0, 3, Integer.MIN_VALUE), 0);
        due("load(0, 0) with rights MIN", x.load(0, 0), GUEST);
    }

    private static void setGuestToNothing() {
        ShadowPager x = mapped();
        x.setGuest(0, 1, 3, 7);
        x.store(0, 0, 4);
        due("setGuest(0, 0, -1, 7)", x.setGuest(0, 0, -1, 7), 0);
        due("load(0, 0) by nothing", x.load(0, 0), GUEST);
        due("store(0, 0, 1) by nothing", x.store(0, 0, 1), GUEST);
        due("fetch(0) by nothing", x.fetch(0), GUEST);
        due("marks(0, 0) of nothing", x.marks(0, 0), 0);
        due("fetch(1)", x.fetch(1), 5);
        due("frameCell(5, 0)", x.frameCell(5, 0), 4);
    }

    private static void promise2WrongInputs() {
        part = "promise 2, wrong inputs";
        ShadowPager x = mapped();
        x.setGuest(1, 0, 3, 7);
        x.store(0, 0, 6);
        for (int space : NOT_SPACES) {
            due("setGuest(" + space + ", 0, 0, 0)", x.setGuest(space, 0, 0, 0), BAD);
        }
        for (int page : NOT_PAGES) {
            due("setGuest(0, " + page + ", 0, 0)", x.setGuest(0, page, 0, 0), BAD);
            due("setGuest(1, " + page + ", 0, 0)", x.setGuest(1, page, 0, 0), BAD);
        }
        for (int middle : NOT_PAGES_NOR_NOTHING) {
            due("setGuest(0, 0, " + middle + ", 0)", x.setGuest(0, 0, middle, 0), BAD);
        }
        due("marks(0, 0)", x.marks(0, 0), 3);
        due("fetch(0)", x.fetch(0), 5);
        x.change(1);
        due("fetch(0) in space 1", x.fetch(0), 5);
        for (int page = 1; page < 8; page++) {
            due("load(" + page + ", 0) in space 1", x.load(page, 0), GUEST);
        }
    }

    private static void promise3SetHost() {
        part = "promise 3";
        ShadowPager x = new ShadowPager();
        for (int middle = 0; middle < 8; middle++) {
            int frame = middle * 5 + 2 & 7;
            due("setHost(" + middle + ", " + frame + ", 7)", x.setHost(middle, frame, 7), 0);
            x.setGuest(0, middle, middle, 7);
            x.setGuest(1, 7 - middle, middle, 7);
        }
        for (int middle = 0; middle < 8; middle++) {
            x.change(0);
            due("fetch(" + middle + ")", x.fetch(middle), middle * 5 + 2 & 7);
            x.change(1);
            due("fetch(" + (7 - middle) + ") in space 1", x.fetch(7 - middle), middle * 5 + 2 & 7);
        }
        setHostMasksRights();
        setHostToNothing();
        setHostKeepsCells();
    }

    private static void setHostMasksRights() {
        ShadowPager x = mapped();
        due("setHost(3, 5, 8)", x.setHost(3, 5, 8), 0);
        due("load(0, 0) with host rights 8", x.load(0, 0), HOST);
        due("store(0, 0, 1) with host rights 8", x.store(0, 0, 1), HOST);
        due("fetch(0) with host rights 8", x.fetch(0), HOST);
        due("setHost(3, 5, 12)", x.setHost(3, 5, 12), 0);
        due("fetch(0) with host rights 12", x.fetch(0), 5);
        due("load(0, 0) with host rights 12", x.load(0, 0), HOST);
        due("setHost(3, 5, -1)", x.setHost(3, 5, -1), 0);
        due("store(0, 0, 1) with host rights -1", x.store(0, 0, 1), 0);
        due("setHost(3, 5, MIN)", x.setHost(3, 5, Integer.MIN_VALUE), 0);
        due("load(0, 0) with host rights MIN", x.load(0, 0), HOST);
    }

    private static void setHostToNothing() {
        ShadowPager x = mapped();
        x.store(0, 0, 4);
        due("setHost(3, -1, 7)", x.setHost(3, -1, 7), 0);
        due("load(0, 0) by host's nothing", x.load(0, 0), HOST);
        due("store(0, 0, 1) by host's nothing", x.store(0, 0, 1), HOST);
        due("fetch(0) by host's nothing", x.fetch(0), HOST);
        due("hostMark(3) of nothing", x.hostMark(3), 0);
        due("frameCell(5, 0)", x.frameCell(5, 0), 4);
        due("marks(0, 0): the guest's marks stay", x.marks(0, 0), 3);
    }

    private static void setHostKeepsCells() {
        ShadowPager x = mapped();
        x.store(0, 2, 31);
        x.setHost(3, 6, 7);
        x.store(0, 2, 32);
        x.setHost(3, 5, 7);
        due("load(0, 2)", x.load(0, 2), 0);
        due("last() after the frame is back", x.last(), 31);
        due("frameCell(6, 2)", x.frameCell(6, 2), 32);
    }

    private static void promise3WrongInputs() {
        part = "promise 3, wrong inputs";
        ShadowPager x = mapped();
        x.store(0, 0, 6);
        for (int middle : NOT_PAGES) {
            due("setHost(" + middle + ", 0, 0)", x.setHost(middle, 0, 0), BAD);
        }
        for (int frame : NOT_PAGES_NOR_NOTHING) {
            due("setHost(3, " + frame + ", 0)", x.setHost(3, frame, 0), BAD);
        }
        due("hostMark(3)", x.hostMark(3), 1);
        due("fetch(0)", x.fetch(0), 5);
        for (int middle = 0; middle < 8; middle++) {
            x.setGuest(0, 1, middle, 7);
            due("fetch(1) by middle page " + middle, x.fetch(1), middle == 3 ? 5 : HOST);
        }
    }

    private static void promise4Change() {
        part = "promise 4";
        ShadowPager x = new ShadowPager();
        x.setGuest(0, 0, 0, 7);
        x.setGuest(1, 0, 1, 7);
        x.setHost(0, 2, 7);
        x.setHost(1, 4, 7);
        int[] spaces = {1, 0, 1, 1, 2, 3, -2, -1, 4, 7, Integer.MIN_VALUE, Integer.MAX_VALUE, 0};
        for (int space : spaces) {
            x.change(space);
            due("fetch(0) after change(" + space + ")", x.fetch(0), (space & 1) == 0 ? 2 : 4);
        }
        ShadowPager y = mapped();
        y.store(0, 1, 8);
        y.load(0, 1);
        y.change(1);
        due("last() after change(1)", y.last(), 8);
        due("marks(0, 0) after change(1)", y.marks(0, 0), 3);
        due("hostMark(3) after change(1)", y.hostMark(3), 1);
        due("frameCell(5, 1) after change(1)", y.frameCell(5, 1), 8);
    }

    private static void promise5Load() {
        part = "promise 5";
        ShadowPager x = mapped();
        for (int cell = 0; cell < 4; cell++) {
            x.store(0, cell, 40 + cell);
        }
        x.age(0);
        for (int cell = 0; cell < 4; cell++) {
            due("load(0, " + cell + ")", x.load(0, cell), 0);
            due("last()", x.last(), 40 + cell);
        }
        due("marks(0, 0)", x.marks(0, 0), 3);
        x.setGuest(0, 0, 3, 6);
        due("load(0, 0) without right 1", x.load(0, 0), GUEST);
        x.setGuest(0, 0, 3, 1);
        due("load(0, 0) with right 1", x.load(0, 0), 0);
        x.setHost(3, 5, 6);
        due("load(0, 0) without the host's right 1", x.load(0, 0), HOST);
        for (int page : NOT_PAGES) {
            due("load(" + page + ", 0)", x.load(page, 0), BAD);
        }
        for (int cell : NOT_CELLS) {
            due("load(0, " + cell + ")", x.load(0, cell), BAD);
        }
        loadFromEveryFrame();
    }

    private static void loadFromEveryFrame() {
        ShadowPager x = mapped();
        for (int frame = 0; frame < 8; frame++) {
            x.setHost(3, frame, 7);
            x.store(0, 1, 60 + frame);
        }
        for (int frame = 7; frame >= 0; frame--) {
            x.setHost(3, frame, 1);
            due("load(0, 1) of frame " + frame, x.load(0, 1), 0);
            due("last() of frame " + frame, x.last(), 60 + frame);
        }
    }

    private static void promise6Store() {
        part = "promise 6";
        ShadowPager x = mapped();
        int[] values = {1, -1, Integer.MIN_VALUE, Integer.MAX_VALUE};
        for (int cell = 0; cell < 4; cell++) {
            due("store(0, " + cell + ", " + values[cell] + ")", x.store(0, cell, values[cell]), 0);
        }
        for (int frame = 0; frame < 8; frame++) {
            for (int cell = 0; cell < 4; cell++) {
                due("frameCell(" + frame + ", " + cell + ")", x.frameCell(frame, cell), frame == 5 ? values[cell] : 0);
            }
        }
        due("last() after stores alone", x.last(), 0);
        x.setGuest(0, 0, 3, 5);
        due("store(0, 0, 9) without right 2", x.store(0, 0, 9), GUEST);
        x.setGuest(0, 0, 3, 2);
        x.setHost(3, 5, 5);
        due("store(0, 0, 9) without the host's right 2", x.store(0, 0, 9), HOST);
        for (int page : NOT_PAGES) {
            due("store(" + page + ", 0, 9)", x.store(page, 0, 9), BAD);
        }
        for (int cell : NOT_CELLS) {
            due("store(0, " + cell + ", 9)", x.store(0, cell, 9), BAD);
        }
        due("marks(0, 0) after refused stores", x.marks(0, 0), 0);
        due("hostMark(3) after refused stores", x.hostMark(3), 0);
        for (int cell = 0; cell < 4; cell++) {
            due("frameCell(5, " + cell + ") after refused stores", x.frameCell(5, cell), values[cell]);
        }
    }

    private static void promise7Fetch() {
        part = "promise 7";
        ShadowPager x = mapped();
        x.store(0, 0, 55);
        x.setGuest(0, 0, 3, 4);
        for (int frame = 0; frame < 8; frame++) {
            x.setHost(3, frame, 4);
            due("fetch(0) of frame " + frame, x.fetch(0), frame);
        }
        due("marks(0, 0)", x.marks(0, 0), 1);
        due("hostMark(3)", x.hostMark(3), 0);
        due("last()", x.last(), 0);
        due("frameCell(5, 0)", x.frameCell(5, 0), 55);
        x.setGuest(0, 0, 3, 3);
        due("fetch(0) without right 4", x.fetch(0), GUEST);
        x.setGuest(0, 0, 3, 7);
        x.setHost(3, 5, 3);
        due("fetch(0) without the host's right 4", x.fetch(0), HOST);
        for (int page : NOT_PAGES) {
            due("fetch(" + page + ")", x.fetch(page), BAD);
        }
    }

    /** What an access with the right answers for the two entries' rights, by the document's words. */
    private static int outcome(int guestRights, int hostRights, int right, int reached) {
        if ((guestRights & right) == 0) {
            return GUEST;
        }
        return (hostRights & right) == 0 ? HOST : reached;
    }

    private static void accessWithEveryPairOfRights() {
        part = "every pair of rights";
        for (int guest = 0; guest < 8; guest++) {
            for (int host = 0; host < 8; host++) {
                for (int right = 1; right <= 4; right *= 2) {
                    ShadowPager x = new ShadowPager();
                    x.setGuest(0, 6, 2, guest);
                    x.setHost(2, 1, host);
                    String with = " with rights " + guest + " and " + host;
                    int want = outcome(guest, host, right, right == 4 ? 1 : 0);
                    int got = right == 1 ? x.load(6, 3) : right == 2 ? x.store(6, 3, 5) : x.fetch(6);
                    due("access " + right + with, got, want);
                    due("marks(0, 6) after access " + right + with, x.marks(0, 6), want < 0 ? 0 : right == 2 ? 3 : 1);
                    due("hostMark(2) after access " + right + with, x.hostMark(2), want == 0 && right == 2 ? 1 : 0);
                    due("frameCell(1, 3) after access " + right + with, x.frameCell(1, 3), want == 0 && right == 2 ? 5 : 0);
                }
            }
        }
    }

    private static void promise8Last() {
        part = "promise 8";
        ShadowPager x = mapped();
        due("last() before any load", x.last(), 0);
        x.store(0, 0, 70);
        x.store(0, 1, 71);
        due("last() before any load", x.last(), 0);
        x.load(0, 0);
        due("last()", x.last(), 70);
        due("last() again", x.last(), 70);
        x.store(0, 0, 99);
        due("last() after the cell was changed", x.last(), 70);
        x.fetch(0);
        due("last() after a fetch", x.last(), 70);
        x.frameCell(5, 1);
        due("last() after frameCell", x.last(), 70);
        x.load(8, 1);
        x.load(0, 4);
        due("last() after BAD loads", x.last(), 70);
        x.load(1, 1);
        due("last() after a GUEST fault", x.last(), 70);
        x.setHost(3, -1, 7);
        x.load(0, 1);
        due("last() after a HOST fault", x.last(), 70);
        x.setHost(3, 5, 7);
        x.load(0, 1);
        due("last() after another load", x.last(), 71);
        x.load(0, 2);
        due("last() after a load of 0", x.last(), 0);
    }

    private static void promise9Marks() {
        part = "promise 9";
        ShadowPager x = mapped();
        x.setGuest(0, 1, 3, 7);
        x.setGuest(1, 0, 3, 7);
        due("marks(0, 0) untouched", x.marks(0, 0), 0);
        x.load(0, 0);
        due("marks(0, 0) after a load", x.marks(0, 0), 1);
        x.store(0, 0, 1);
        due("marks(0, 0) after a store", x.marks(0, 0), 3);
        x.fetch(0);
        x.load(0, 0);
        due("marks(0, 0) after a store, a fetch and a load", x.marks(0, 0), 3);
        due("marks(0, 1), of the same middle page", x.marks(0, 1), 0);
        due("marks(1, 0), of the other space", x.marks(1, 0), 0);
        x.store(1, 0, 1);
        due("marks(0, 1) after a first store", x.marks(0, 1), 3);
        x.change(1);
        x.fetch(0);
        due("marks(1, 0) after a fetch in space 1", x.marks(1, 0), 1);
        due("marks(0, 0) after a fetch in space 1", x.marks(0, 0), 3);
        x.setGuest(0, 0, 3, 7);
        due("marks(0, 0) after the same entry was set again", x.marks(0, 0), 0);
        due("marks(0, 1) after its neighbour was set", x.marks(0, 1), 3);
        x.setGuest(0, 1, -1, 0);
        due("marks(0, 1) of nothing", x.marks(0, 1), 0);
        x.setGuest(0, 1, 3, 7);
        due("marks(0, 1) set again after nothing", x.marks(0, 1), 0);
        for (int space : NOT_SPACES) {
            due("marks(" + space + ", 0)", x.marks(space, 0), BAD);
        }
        for (int page : NOT_PAGES) {
            due("marks(0, " + page + ")", x.marks(0, page), BAD);
            due("marks(1, " + page + ")", x.marks(1, page), BAD);
        }
    }

    private static void promise10HostMark() {
        part = "promise 10";
        ShadowPager x = mapped();
        x.setHost(4, 5, 7);
        x.load(0, 0);
        x.fetch(0);
        due("hostMark(3) after a load and a fetch", x.hostMark(3), 0);
        x.store(0, 0, 0);
        due("hostMark(3) after a store of the same value", x.hostMark(3), 1);
        due("hostMark(4), of the same frame", x.hostMark(4), 0);
        due("hostMark(5), of nothing", x.hostMark(5), 0);
        x.age(0);
        x.setGuest(0, 0, -1, 0);
        due("hostMark(3) after age and setGuest", x.hostMark(3), 1);
        x.setHost(3, 5, 7);
        due("hostMark(3) after the same entry was set again", x.hostMark(3), 0);
        x.setGuest(1, 7, 3, 7);
        x.change(1);
        x.store(7, 3, 1);
        due("hostMark(3) after a store in space 1", x.hostMark(3), 1);
        x.setHost(3, -1, 7);
        due("hostMark(3) of nothing", x.hostMark(3), 0);
        x.setHost(3, 5, 7);
        due("hostMark(3) set again after nothing", x.hostMark(3), 0);
        for (int middle : NOT_PAGES) {
            due("hostMark(" + middle + ")", x.hostMark(middle), BAD);
        }
    }

    private static void promise11Age() {
        part = "promise 11";
        ShadowPager x = mapped();
        for (int page = 0; page < 8; page++) {
            x.setGuest(0, page, 3, 7);
            x.setGuest(1, page, 3, 7);
        }
        x.load(0, 0);
        x.store(3, 0, 1);
        x.fetch(7);
        x.change(1);
        x.store(7, 0, 1);
        for (int space : NOT_SPACES) {
            due("age(" + space + ")", x.age(space), BAD);
        }
        due("marks(0, 0) after refused ages", x.marks(0, 0), 1);
        due("marks(1, 7) after refused ages", x.marks(1, 7), 3);
        due("age(0) while space 1 is present", x.age(0), 3);
        due("marks(0, 0)", x.marks(0, 0), 0);
        due("marks(0, 3)", x.marks(0, 3), 2);
        due("marks(0, 7)", x.marks(0, 7), 0);
        due("marks(1, 7)", x.marks(1, 7), 3);
        due("age(0) again", x.age(0), 0);
        due("marks(0, 3) again", x.marks(0, 3), 2);
        x.change(0);
        x.load(3, 0);
        due("marks(0, 3) touched again", x.marks(0, 3), 3);
        due("age(1)", x.age(1), 1);
        due("marks(1, 7) after age(1)", x.marks(1, 7), 2);
        due("hostMark(3)", x.hostMark(3), 1);
        x.setGuest(0, 3, -1, 7);
        due("age(0) after the touched entry became nothing", x.age(0), 0);
        for (int page = 0; page < 8; page++) {
            x.setGuest(0, page, 3, 7);
            x.load(page, 0);
        }
        due("age(0) of all eight", x.age(0), 8);
    }

    private static void promise12FrameCell() {
        part = "promise 12";
        ShadowPager x = new ShadowPager();
        for (int frame = 0; frame < 8; frame++) {
            x.setGuest(0, frame, frame, 7);
            x.setHost(frame, frame, 7);
            for (int cell = 0; cell < 4; cell++) {
                x.store(frame, cell, 1000 + frame * 10 + cell);
            }
        }
        x.age(0);
        for (int frame = 0; frame < 8; frame++) {
            x.setHost(frame, -1, 0);
            for (int cell = 0; cell < 4; cell++) {
                due("frameCell(" + frame + ", " + cell + ")", x.frameCell(frame, cell), 1000 + frame * 10 + cell);
            }
            due("marks(0, " + frame + ") after frameCell", x.marks(0, frame), 2);
        }
        due("last() after frameCell", x.last(), 0);
        for (int frame : NOT_PAGES) {
            due("frameCell(" + frame + ", 0)", x.frameCell(frame, 0), 0);
        }
        for (int cell : NOT_CELLS) {
            due("frameCell(1, " + cell + ")", x.frameCell(1, cell), 0);
        }
    }

    private static void promise13OrderAndLimits() {
        part = "promise 13";
        ShadowPager x = new ShadowPager();
        due("load(0, 4) where the guest entry is nothing", x.load(0, 4), BAD);
        due("load(0, -1) where the guest entry is nothing", x.load(0, -1), BAD);
        due("store(0, 4, 1) where the guest entry is nothing", x.store(0, 4, 1), BAD);
        due("store(8, 0, 1) where the guest entry is nothing", x.store(8, 0, 1), BAD);
        due("fetch(8) where the guest entry is nothing", x.fetch(8), BAD);
        x.setGuest(0, 0, 3, 7);
        due("load(0, 4) where the host entry is nothing", x.load(0, 4), BAD);
        due("store(0, -1, 1) where the host entry is nothing", x.store(0, -1, 1), BAD);
        due("store(0, 0, 1) where the host entry is nothing", x.store(0, 0, 1), HOST);
        due("fetch(0) where the host entry is nothing", x.fetch(0), HOST);
        due("marks(0, 0) after HOST faults", x.marks(0, 0), 0);
        x.setHost(3, 5, 7);
        due("load(0, 4)", x.load(0, 4), BAD);
        due("store(0, 4, 1)", x.store(0, 4, 1), BAD);
        due("fetch(-1)", x.fetch(-1), BAD);
        due("marks(0, 0) after BAD accesses", x.marks(0, 0), 0);
        due("hostMark(3) after BAD accesses", x.hostMark(3), 0);
        due("age(0) after BAD accesses", x.age(0), 0);
        due("age(-1)", x.age(-1), BAD);
        due("age(2)", x.age(2), BAD);
        x.setGuest(0, 0, 3, 0);
        x.setHost(3, -1, 0);
        due("load(0, 0) with both faults", x.load(0, 0), GUEST);
        for (int frame = 0; frame < 8; frame++) {
            for (int cell = 0; cell < 4; cell++) {
                due("frameCell(" + frame + ", " + cell + ")", x.frameCell(frame, cell), 0);
            }
        }
    }
}
