import java.util.HashMap;
import java.util.Map;

/**
 * One method for each sentence of the document that names a boundary case, in the document's order.
 * The sentence, or its part, stands in the method's first line. No object gets more than 512 calls.
 */
public final class ShadowPagerBoundariesTest {
    private static final int BAD = -1;
    private static final int GUEST = -2;
    private static final int HOST = -3;
    private static final int MIN = Integer.MIN_VALUE;
    private static final int MAX = Integer.MAX_VALUE;
    private static final int[] RIGHTS = {1, 2, 4};

    private interface Call {
        int on(ShadowPager x);
    }

    private static final class State {
        final String name;
        final Call make;

        State(String name, Call make) {
            this.name = name;
            this.make = make;
        }
    }

    private static final State FRESH = new State("new object", x -> 0);
    private static final State FULL = new State("full object", x -> full(x));
    private static final State FULL_IN_SPACE_1 = new State("full object in space 1", x -> full(x) + changed(x, 1));
    private static final State[] STATES = {FRESH, FULL, FULL_IN_SPACE_1};

    private static final Map<State, String> SEEN = new HashMap<>();
    private static int wrong = 0;
    private static String place = "";
    private static String sentence = "";

    public static void main(String[] args) {
        place = "What it is";
        theWhole();
        place = "Terms";
        terms();
        place = "Terms, an access";
        access();
        place = "Terms, marks";
        marksOfEntries();
        place = "Promise 2";
        setGuest();
        place = "Promise 3";
        setHost();
        place = "Promise 4";
        change();
        place = "Promise 5";
        load();
        place = "Promise 6";
        storeThatIsRefusedChangesNothing();
        place = "Promise 7";
        fetch();
        place = "Promise 8";
        last();
        place = "Promise 9";
        marks();
        place = "Promise 10";
        hostMark();
        place = "Promise 11";
        age();
        place = "Promise 12";
        frameCell();
        place = "Promise 13";
        orderAndLimits();
        System.out.println(wrong == 0 ? "all answers are as due" : wrong + " answers are not as due");
        if (wrong != 0) {
            System.exit(1);
        }
    }

    // What the sentences' tests are made of.

    private static void due(String call, long got, long want) {
        if (got != want) {
            wrong++;
            System.out.println(where() + call + " answered " + got + ", due is " + want);
        }
    }

    private static String where() {
        return place + ", \"" + sentence + "\": ";
    }

    private static int changed(ShadowPager x, int space) {
        x.change(space);
        return 0;
    }

    /**
     * Every entry set with all rights, every cell other than 0 and unlike its neighbours, marks of all kinds:
     * a wrong index that wraps into another page, space or frame is seen.
     */
    private static int full(ShadowPager x) {
        for (int page = 0; page < 8; page++) {
            x.setGuest(0, page, page, 7);
            x.setGuest(1, page, page ^ 5, 7);
            x.setHost(page, 7 - page, 7);
        }
        for (int page = 0; page < 8; page++) {
            for (int cell = 0; cell < 4; cell++) {
                x.store(page, cell, 1000 + 10 * page + cell);
            }
        }
        x.age(0);
        x.setGuest(0, 0, 0, 7);
        x.setGuest(0, 1, 1, 7);
        x.load(1, 1);
        x.load(7, 2);
        x.change(1);
        x.store(0, 3, 2000);
        x.fetch(7);
        x.setHost(4, 3, 7);
        x.change(0);
        return 0;
    }

    private static ShadowPager made(State state, Call call) {
        ShadowPager x = new ShadowPager();
        state.make.on(x);
        call.on(x);
        return x;
    }

    /** All that can be seen of the object after the call; each look spoils its object, so each has its own. */
    private static String seen(State state, Call call) {
        StringBuilder out = new StringBuilder();
        lookAtPresent(made(state, call), out);
        lookAtGuestTables(made(state, call), out);
        lookAtHostTable(made(state, call), out);
        return out.toString();
    }

    private static void lookAtPresent(ShadowPager x, StringBuilder out) {
        out.append(x.last());
        lookAtMarksAndCells(x, out);
        for (int page = 0; page < 8; page++) {
            lookByAccess(x, page, out);
        }
        lookAtMarksAndCells(x, out);
    }

    private static void lookAtMarksAndCells(ShadowPager x, StringBuilder out) {
        for (int page = 0; page < 8; page++) {
            out.append(" g").append(x.marks(0, page)).append(x.marks(1, page)).append(" h").append(x.hostMark(page));
            for (int cell = 0; cell < 4; cell++) {
                out.append(' ').append(x.frameCell(page, cell));
            }
        }
    }

    private static void lookByAccess(ShadowPager x, int page, StringBuilder out) {
        out.append(" l").append(x.load(page, 1)).append(' ').append(x.last());
        out.append(" s").append(x.store(page, 2, 5000 + page)).append(" f").append(x.fetch(page));
    }

    private static void lookAtGuestTables(ShadowPager x, StringBuilder out) {
        for (int middle = 0; middle < 8; middle++) {
            x.setHost(middle, middle, 7);
        }
        for (int space = 0; space < 2; space++) {
            x.change(space);
            for (int page = 0; page < 8; page++) {
                lookByAccess(x, page, out);
                lookAtCells2(x, out);
            }
        }
    }

    private static void lookAtHostTable(ShadowPager x, StringBuilder out) {
        x.change(0);
        for (int middle = 0; middle < 8; middle++) {
            x.setGuest(0, middle, middle, 7);
            lookByAccess(x, middle, out);
            lookAtCells2(x, out);
        }
    }

    /** Where the store of lookByAccess has gone, which an entry without rights 1 and 4 tells in no other way. */
    private static void lookAtCells2(ShadowPager x, StringBuilder out) {
        for (int frame = 0; frame < 8; frame++) {
            out.append(' ').append(x.frameCell(frame, 2));
        }
    }

    /** The call answers the code and changes nothing, in each of the states. */
    private static void refused(String call, int code, Call c, State... states) {
        for (State state : states) {
            ShadowPager x = new ShadowPager();
            state.make.on(x);
            due(call + " on a " + state.name, c.on(x), code);
            String before = SEEN.computeIfAbsent(state, any -> seen(state, y -> 0));
            if (!seen(state, c).equals(before)) {
                wrong++;
                System.out.println(where() + call + " on a " + state.name + " changed something");
            }
        }
    }

    /** Numbers below the bound; some come back to a good index when multiplied, masked or cut to fewer bits. */
    private static int[] below(int bound) {
        return new int[] {bound - 1, bound - 2, bound - 7, bound - 8, -256, -65536, -(1 << 29), -(1 << 30), MIN};
    }

    /** Numbers above the bound, chosen as those below. */
    private static int[] above(int bound) {
        return new int[] {bound + 1, bound + 2, bound + 7, bound + 8, 256, 65536, 1 << 28, 1 << 29, 1 << 30, MAX};
    }

    private static int access(ShadowPager x, int right, int page, int cell) {
        return right == 1 ? x.load(page, cell) : right == 2 ? x.store(page, cell, 77) : x.fetch(page);
    }

    private static String accessName(int right, int page, int cell) {
        return right == 1 ? "load(" + page + ", " + cell + ")"
            : right == 2 ? "store(" + page + ", " + cell + ", 77)" : "fetch(" + page + ")";
    }

    /** What an access with the right answers when it reaches the frame. */
    private static int reached(int right, int frame) {
        return right == 4 ? frame : 0;
    }

    /** A full object whose page 2 of space 0 and its middle page 2 have these entries. */
    private static State entries(String name, int middle, int guestRights, int frame, int hostRights) {
        return new State(name, x -> full(x) + x.setGuest(0, 2, middle, guestRights) + x.setHost(2, frame, hostRights));
    }

    // What it is.

    private static void theWhole() {
        the512thCallIsGood();
        everyKindOfCallMayBeMade512Times();
    }

    private static void the512thCallIsGood() {
        sentence = "An object is used for at most 512 calls after it has been made";
        ShadowPager x = new ShadowPager();
        x.setGuest(0, 0, 3, 7);
        x.setHost(3, 5, 7);
        for (int call = 3; call <= 510; call++) {
            due("store as call " + call, x.store(0, 3, call), 0);
        }
        due("load as call 511", x.load(0, 3), 0);
        due("last as call 512", x.last(), 510);
    }

    private static void everyKindOfCallMayBeMade512Times() {
        sentence = "An object is used for at most 512 calls after it has been made";
        ShadowPager[] x = new ShadowPager[10];
        for (int kind = 0; kind < x.length; kind++) {
            x[kind] = new ShadowPager();
        }
        for (int call = 1; call <= 512; call++) {
            due("setGuest as call " + call, x[0].setGuest(call & 1, call & 7, call & 7, 7), 0);
            due("setHost as call " + call, x[1].setHost(call & 7, call & 7, 7), 0);
            due("load as call " + call, x[2].load(call & 7, call & 3), GUEST);
            due("store as call " + call, x[3].store(call & 7, call & 3, call), GUEST);
            due("fetch as call " + call, x[4].fetch(call & 7), GUEST);
            due("last as call " + call, x[5].last(), 0);
            due("marks as call " + call, x[6].marks(call & 1, call & 7), 0);
            due("hostMark as call " + call, x[7].hostMark(call & 7), 0);
            due("age as call " + call, x[8].age(call & 1), 0);
            due("frameCell as call " + call, x[9].frameCell(call & 7, call & 3), 0);
        }
        ShadowPager y = new ShadowPager();
        y.setGuest(1, 0, 0, 7);
        for (int call = 2; call <= 511; call++) {
            y.change(call);
        }
        due("load as call 512 after 510 of change", y.load(0, 0), HOST);
    }

    // Terms.

    private static void terms() {
        firstAndLastOfEachKind();
        cellsAre0AtTheStart();
        cellsHoldTheLeastAndTheGreatestInt();
        rights0And7();
        allEntriesAreNothingAtTheStart();
        space0IsPresentAtTheStart();
        oneHostTableForBothSpaces();
    }

    private static void firstAndLastOfEachKind() {
        sentence = "GUEST PAGES are 0 to 7, MIDDLE PAGES 0 to 7, FRAMES 0 to 7; each page and each frame has 4 cells, 0 to 3.";
        int[] ends = {0, 7};
        for (int page : ends) {
            for (int middle : ends) {
                for (int frame : ends) {
                    for (int cell = 0; cell < 4; cell += 3) {
                        oneWayThrough(page, middle, frame, cell);
                    }
                }
            }
        }
    }

    private static void oneWayThrough(int page, int middle, int frame, int cell) {
        ShadowPager x = new ShadowPager();
        String way = " by middle page " + middle + " and frame " + frame;
        due("setGuest(0, " + page + ", " + middle + ", 7)", x.setGuest(0, page, middle, 7), 0);
        due("setHost(" + middle + ", " + frame + ", 7)", x.setHost(middle, frame, 7), 0);
        due("store(" + page + ", " + cell + ", 31)" + way, x.store(page, cell, 31), 0);
        due("load(" + page + ", " + cell + ")" + way, x.load(page, cell), 0);
        due("last()" + way, x.last(), 31);
        due("fetch(" + page + ")" + way, x.fetch(page), frame);
        due("marks(0, " + page + ")" + way, x.marks(0, page), 3);
        due("hostMark(" + middle + ")" + way, x.hostMark(middle), 1);
        for (int f = 0; f < 8; f++) {
            for (int c = 0; c < 4; c++) {
                due("frameCell(" + f + ", " + c + ")" + way, x.frameCell(f, c), f == frame && c == cell ? 31 : 0);
            }
        }
    }

    private static void cellsAre0AtTheStart() {
        sentence = "The cells of frames hold ints (0 at the start).";
        ShadowPager x = new ShadowPager();
        x.setGuest(0, 0, 0, 1);
        for (int frame = 0; frame < 8; frame++) {
            x.setHost(0, frame, 1);
            for (int cell = 0; cell < 4; cell++) {
                due("frameCell(" + frame + ", " + cell + ")", x.frameCell(frame, cell), 0);
                due("load(0, " + cell + ") of frame " + frame, x.load(0, cell), 0);
                due("last() of frame " + frame, x.last(), 0);
            }
        }
    }

    private static void cellsHoldTheLeastAndTheGreatestInt() {
        sentence = "The cells of frames hold ints";
        ShadowPager x = new ShadowPager();
        full(x);
        int[] values = {MIN, MAX, -1, 0, 1, MIN + 1, MAX - 1, 65536, -32769, BAD, GUEST, HOST};
        for (int value : values) {
            due("store(6, 3, " + value + ")", x.store(6, 3, value), 0);
            due("load(6, 3) of " + value, x.load(6, 3), 0);
            due("last() of " + value, x.last(), value);
            due("frameCell(1, 3) of " + value, x.frameCell(1, 3), value);
        }
    }

    private static void rights0And7() {
        sentence = "RIGHTS from 0 to 7 (the sum of 1 read, 2 write, 4 run)";
        State none = entries("object with a guest entry of rights 0", 2, 0, 5, 7);
        State hostNone = entries("object with a host entry of rights 0", 2, 7, 5, 0);
        State all = entries("object with both entries of rights 7", 2, 7, 5, 7);
        for (int right : RIGHTS) {
            refused(accessName(right, 2, 0), GUEST, x -> access(x, right, 2, 0), none);
            refused(accessName(right, 2, 0), HOST, x -> access(x, right, 2, 0), hostNone);
            due(accessName(right, 2, 0) + " with rights 7", access(made(all, x -> 0), right, 2, 0), reached(right, 5));
            State alone = entries("object with rights " + right + " alone", 2, right, 5, right);
            for (int other : RIGHTS) {
                int want = other == right ? reached(right, 5) : GUEST;
                due(accessName(other, 2, 0) + " with rights " + right, access(made(alone, x -> 0), other, 2, 0), want);
            }
        }
    }

    private static void allEntriesAreNothingAtTheStart() {
        sentence = "All entries are nothing at the start.";
        for (int space = 0; space < 2; space++) {
            for (int page = 0; page < 8; page++) {
                for (int right : RIGHTS) {
                    ShadowPager x = new ShadowPager();
                    // With a host entry for every middle page, no guest entry but nothing can fault.
                    for (int middle = 0; middle < 8; middle++) {
                        x.setHost(middle, 0, 7);
                    }
                    x.change(space);
                    due(accessName(right, page, 0) + " in space " + space, access(x, right, page, 0), GUEST);
                    due("marks(" + space + ", " + page + ")", x.marks(space, page), 0);
                }
            }
        }
        for (int middle = 0; middle < 8; middle++) {
            for (int right : RIGHTS) {
                ShadowPager x = new ShadowPager();
                x.setGuest(0, 0, middle, 7);
                due(accessName(right, 0, 0) + " by middle page " + middle, access(x, right, 0, 0), HOST);
                due("hostMark(" + middle + ")", x.hostMark(middle), 0);
            }
        }
    }

    private static void space0IsPresentAtTheStart() {
        sentence = "one space is PRESENT (space 0 at the start)";
        for (int right : RIGHTS) {
            ShadowPager x = new ShadowPager();
            x.setGuest(0, 4, 1, 7);
            x.setGuest(1, 5, 1, 7);
            x.setHost(1, 6, 7);
            due(accessName(right, 4, 0) + ", a page of space 0", access(x, right, 4, 0), reached(right, 6));
            due(accessName(right, 5, 0) + ", a page of space 1", access(x, right, 5, 0), GUEST);
        }
    }

    private static void oneHostTableForBothSpaces() {
        sentence = "The host table is the same for both.";
        ShadowPager x = new ShadowPager();
        x.setGuest(0, 0, 7, 7);
        x.setGuest(1, 0, 7, 7);
        for (int space = 0; space < 2; space++) {
            x.change(space);
            x.setHost(7, 2 + space, 7);
            due("fetch(0) in space " + space, x.fetch(0), 2 + space);
            x.change(1 - space);
            due("fetch(0) in the other space than " + space, x.fetch(0), 2 + space);
            x.setHost(7, -1, 7);
            x.change(space);
            due("fetch(0) in space " + space + " by nothing", x.fetch(0), HOST);
        }
    }

    // An access.

    private static void access() {
        guestEntryIsNothing();
        guestEntryHasNotThatRight();
        hostEntryIsNothing();
        hostEntryHasNotThatRight();
        presentSpacesTableAlone();
        sameCellOfTheFrame();
    }

    private static void guestEntryIsNothing() {
        sentence = "if the guest page's entry is nothing or has not that right: GUEST fault (nothing)";
        State nothing = entries("object with a guest entry of nothing", -1, 7, 5, 7);
        for (int right : RIGHTS) {
            refused(accessName(right, 2, 0), GUEST, x -> access(x, right, 2, 0), nothing);
        }
    }

    private static void guestEntryHasNotThatRight() {
        sentence = "if the guest page's entry is nothing or has not that right: GUEST fault (not that right)";
        for (int right : RIGHTS) {
            State lacking = entries("object with a guest entry without right " + right, 2, 7 - right, 5, 7);
            refused(accessName(right, 2, 0), GUEST, x -> access(x, right, 2, 0), lacking);
        }
    }

    private static void hostEntryIsNothing() {
        sentence = "if that page's entry in the host table is nothing or has not that right: HOST fault (nothing)";
        State nothing = entries("object with a host entry of nothing", 2, 7, -1, 7);
        for (int right : RIGHTS) {
            refused(accessName(right, 2, 0), HOST, x -> access(x, right, 2, 0), nothing);
        }
    }

    private static void hostEntryHasNotThatRight() {
        sentence = "if that page's entry in the host table is nothing or has not that right: HOST fault (not that right)";
        for (int right : RIGHTS) {
            State lacking = entries("object with a host entry without right " + right, 2, 7, 5, 7 - right);
            refused(accessName(right, 2, 0), HOST, x -> access(x, right, 2, 0), lacking);
        }
    }

    private static void presentSpacesTableAlone() {
        sentence = "is worked out by the present space's guest table and the host table";
        for (int space = 0; space < 2; space++) {
            for (int right : RIGHTS) {
                ShadowPager x = new ShadowPager();
                x.setGuest(space, 0, 0, 7);
                x.setGuest(1 - space, 7, 7, 7);
                x.setHost(0, 3, 7);
                x.setHost(7, 4, 7);
                x.change(space);
                due(accessName(right, 0, 0) + " in space " + space, access(x, right, 0, 0), reached(right, 3));
                due(accessName(right, 7, 0) + " in space " + space, access(x, right, 7, 0), GUEST);
                due("marks of the other space's page 7", x.marks(1 - space, 7), 0);
            }
        }
    }

    private static void sameCellOfTheFrame() {
        sentence = "Else it reaches the cell with the same number of the frame.";
        for (int cell = 0; cell < 4; cell++) {
            ShadowPager x = new ShadowPager();
            full(x);
            x.load(4, cell);
            due("last() after load(4, " + cell + ")", x.last(), 1040 + cell);
            x.store(4, cell, 8);
            for (int c = 0; c < 4; c++) {
                due("frameCell(3, " + c + ") after store(4, " + cell + ", 8)", x.frameCell(3, c), c == cell ? 8 : 1040 + c);
            }
        }
    }

    // Marks.

    private static void marksOfEntries() {
        marksAreOffWheneverTheEntryIsSet();
        reachingTurnsMarksOn();
        hostMarkIsOffWheneverTheEntryIsSet();
        hostMarkIsOnlyOfTheEntryGoneThrough();
    }

    private static void marksAreOffWheneverTheEntryIsSet() {
        sentence = "Every guest entry has two marks, TOUCHED and CHANGED, both off whenever the entry is set.";
        int[] middles = {0, 7, 2, -1};
        for (int space = 0; space < 2; space++) {
            for (int page = 0; page < 8; page += 7) {
                for (int middle : middles) {
                    ShadowPager x = new ShadowPager();
                    full(x);
                    x.change(space);
                    x.store(page, 0, 1);
                    due("marks(" + space + ", " + page + ") before", x.marks(space, page), 3);
                    x.setGuest(space, page, middle, 7);
                    due("marks(" + space + ", " + page + ") after middle page " + middle, x.marks(space, page), 0);
                    x.setGuest(space, page, 2, 7);
                    due("marks(" + space + ", " + page + ") after middle page 2", x.marks(space, page), 0);
                }
            }
        }
        setWhereOnlyOneMarkIsOn();
    }

    private static void setWhereOnlyOneMarkIsOn() {
        ShadowPager x = new ShadowPager();
        full(x);
        due("marks(0, 1), touched alone", x.marks(0, 1), 1);
        x.setGuest(0, 1, 1, 7);
        due("marks(0, 1) after the same entry is set", x.marks(0, 1), 0);
        due("marks(0, 2), changed alone", x.marks(0, 2), 2);
        x.setGuest(0, 2, 2, 7);
        due("marks(0, 2) after the same entry is set", x.marks(0, 2), 0);
        due("marks(0, 3), whose neighbour was set", x.marks(0, 3), 2);
        due("hostMark(2), whose middle page the guest has set", x.hostMark(2), 1);
    }

    private static void reachingTurnsMarksOn() {
        sentence = "An access that reaches a frame turns the guest entry's touched mark on, and the changed mark too if the right is 2.";
        for (int right : RIGHTS) {
            ShadowPager x = new ShadowPager();
            x.setGuest(0, 2, 2, 7);
            x.setGuest(0, 3, 2, 7);
            x.setGuest(1, 2, 2, 7);
            x.setHost(2, 0, 7);
            access(x, right, 2, 0);
            due("marks(0, 2) after " + accessName(right, 2, 0), x.marks(0, 2), right == 2 ? 3 : 1);
            due("marks(0, 3) after " + accessName(right, 2, 0), x.marks(0, 3), 0);
            due("marks(1, 2) after " + accessName(right, 2, 0), x.marks(1, 2), 0);
            access(x, right, 2, 0);
            due("marks(0, 2) after two of " + accessName(right, 2, 0), x.marks(0, 2), right == 2 ? 3 : 1);
            x.store(2, 0, 1);
            access(x, right, 2, 0);
            due("marks(0, 2) after store and " + accessName(right, 2, 0), x.marks(0, 2), 3);
        }
    }

    private static void hostMarkIsOffWheneverTheEntryIsSet() {
        sentence = "The host's entries have a changed mark in the same way (off whenever the entry is set";
        int[] frames = {0, 7, 5, -1};
        for (int middle = 0; middle < 8; middle += 7) {
            for (int frame : frames) {
                ShadowPager x = new ShadowPager();
                full(x);
                x.store(middle, 0, 1);
                due("hostMark(" + middle + ") before", x.hostMark(middle), 1);
                x.setHost(middle, frame, 7);
                due("hostMark(" + middle + ") after frame " + frame, x.hostMark(middle), 0);
                x.setHost(middle, 5, 7);
                due("hostMark(" + middle + ") after frame 5", x.hostMark(middle), 0);
                due("hostMark(2), which was not set", x.hostMark(2), 1);
                due("marks(0, " + middle + "), whose host entry was set", x.marks(0, middle), 3);
            }
        }
    }

    private static void hostMarkIsOnlyOfTheEntryGoneThrough() {
        sentence = "on after an access with right 2 that reached the frame through it";
        for (int right : RIGHTS) {
            ShadowPager x = new ShadowPager();
            x.setGuest(0, 2, 6, 7);
            x.setHost(6, 1, 7);
            x.setHost(5, 1, 7);
            access(x, right, 2, 0);
            due("hostMark(6) after " + accessName(right, 2, 0), x.hostMark(6), right == 2 ? 1 : 0);
            due("hostMark(5), of the same frame", x.hostMark(5), 0);
            due("hostMark(2), of the guest page's number", x.hostMark(2), 0);
            due("hostMark(1), of the frame's number", x.hostMark(1), 0);
        }
    }

    // Promises 2 and 3.

    private static void setGuest() {
        setGuestRightsAreMasked();
        setGuestMiddleNothing();
        setGuestWithinBounds();
        setGuestWrongSpace();
        setGuestWrongPage();
        setGuestWrongMiddle();
        setGuestSeveralWrong();
    }

    /** Rights outside 0 to 7, of which the three low bits alone count. */
    private static int[] wideRights() {
        return new int[] {-1, -8, -7, -2, 8, 9, 10, 12, 15, 16, 255, 256, 65540, MIN, MIN + 2, MAX, MAX - 1};
    }

    private static void setGuestRightsAreMasked() {
        sentence = "Sets the entry of the guest page in the guest table of the space: middle page and rights & 7";
        for (int rights : wideRights()) {
            for (int right : RIGHTS) {
                ShadowPager x = new ShadowPager();
                x.setHost(3, 5, 7);
                due("setGuest(0, 0, 3, " + rights + ")", x.setGuest(0, 0, 3, rights), 0);
                int want = (rights & right) != 0 ? reached(right, 5) : GUEST;
                due(accessName(right, 0, 0) + " with rights " + rights, access(x, right, 0, 0), want);
            }
        }
    }

    private static void setGuestMiddleNothing() {
        sentence = "a middle page of -1 means nothing";
        for (int space = 0; space < 2; space++) {
            for (int page = 0; page < 8; page++) {
                for (int right : RIGHTS) {
                    ShadowPager x = new ShadowPager();
                    full(x);
                    x.change(space);
                    due("setGuest(" + space + ", " + page + ", -1, 7)", x.setGuest(space, page, -1, 7), 0);
                    due(accessName(right, page, 0) + " by nothing in space " + space, access(x, right, page, 0), GUEST);
                    due("marks(" + space + ", " + page + ") of nothing", x.marks(space, page), 0);
                    x.change(1 - space);
                    int frame = space == 1 ? 7 - page : (page ^ 5) == 4 ? 3 : 7 - (page ^ 5);
                    due(accessName(right, page, 0) + " in the other space", access(x, right, page, 0), reached(right, frame));
                }
            }
        }
    }

    private static void setGuestWithinBounds() {
        sentence = "Answers 0";
        for (int space = 0; space < 2; space++) {
            for (int page = 0; page < 8; page += 7) {
                for (int middle = -1; middle < 8; middle++) {
                    ShadowPager x = new ShadowPager();
                    x.change(space);
                    for (int m = 0; m < 8; m++) {
                        x.setHost(m, m, 7);
                    }
                    String call = "setGuest(" + space + ", " + page + ", " + middle + ", 7)";
                    due(call, x.setGuest(space, page, middle, 7), 0);
                    for (int p = 0; p < 8; p++) {
                        due("fetch(" + p + ") after " + call, x.fetch(p), p == page && middle != -1 ? middle : GUEST);
                    }
                    x.change(1 - space);
                    due("fetch(" + page + ") in the other space after " + call, x.fetch(page), GUEST);
                }
            }
        }
    }

    private static void refusedSetGuest(int space, int page, int middle) {
        String call = "setGuest(" + space + ", " + page + ", " + middle + ", ";
        refused(call + "5)", BAD, x -> x.setGuest(space, page, middle, 5), STATES);
        refused(call + "0)", BAD, x -> x.setGuest(space, page, middle, 0), STATES);
    }

    private static void setGuestWrongSpace() {
        sentence = "BAD, and changes nothing, if space is not 0 or 1";
        int[] pages = {0, 7};
        for (int page : pages) {
            for (int space : below(0)) {
                refusedSetGuest(space, page, 6);
            }
            for (int space : above(1)) {
                refusedSetGuest(space, page, 6);
            }
        }
    }

    private static void setGuestWrongPage() {
        sentence = "BAD, and changes nothing, if page is not from 0 to 7";
        for (int space = 0; space < 2; space++) {
            for (int page : below(0)) {
                refusedSetGuest(space, page, 6);
            }
            for (int page : above(7)) {
                refusedSetGuest(space, page, 6);
            }
        }
    }

    private static void setGuestWrongMiddle() {
        sentence = "BAD, and changes nothing, if middle is not from -1 to 7";
        for (int space = 0; space < 2; space++) {
            for (int middle : below(-1)) {
                refusedSetGuest(space, 7, middle);
            }
            for (int middle : above(7)) {
                refusedSetGuest(space, 7, middle);
            }
        }
    }

    private static void setGuestSeveralWrong() {
        sentence = "BAD, and changes nothing, if space is not 0 or 1, page is not from 0 to 7, or middle is not from -1 to 7.";
        // The first four would wrap into the tables, if space and page were looked at together.
        refusedSetGuest(-1, 8, 0);
        refusedSetGuest(-1, 15, 0);
        refusedSetGuest(2, -1, 0);
        refusedSetGuest(2, -8, -1);
        refusedSetGuest(-1, 0, -2);
        refusedSetGuest(0, 8, 8);
        refusedSetGuest(2, 8, 8);
    }

    private static void setHost() {
        setHostRightsAreMasked();
        setHostFrameNothing();
        setHostWithinBounds();
        setHostWrongMiddle();
        setHostWrongFrame();
        setHostSeveralWrong();
    }

    private static void setHostRightsAreMasked() {
        sentence = "Sets the entry of the middle page in the host table: frame and rights & 7";
        for (int rights : wideRights()) {
            for (int right : RIGHTS) {
                ShadowPager x = new ShadowPager();
                x.setGuest(0, 0, 3, 7);
                due("setHost(3, 5, " + rights + ")", x.setHost(3, 5, rights), 0);
                int want = (rights & right) != 0 ? reached(right, 5) : HOST;
                due(accessName(right, 0, 0) + " with the host's rights " + rights, access(x, right, 0, 0), want);
            }
        }
    }

    private static void setHostFrameNothing() {
        sentence = "a frame of -1 means nothing";
        for (int middle = 0; middle < 8; middle++) {
            for (int right : RIGHTS) {
                ShadowPager x = new ShadowPager();
                full(x);
                due("setHost(" + middle + ", -1, 7)", x.setHost(middle, -1, 7), 0);
                due("hostMark(" + middle + ") of nothing", x.hostMark(middle), 0);
                for (int page = 0; page < 8; page++) {
                    int want = page == middle ? HOST : reached(right, page == 4 ? 3 : 7 - page);
                    due(accessName(right, page, 0) + " after setHost(" + middle + ", -1, 7)", access(x, right, page, 0), want);
                }
                for (int frame = 0; frame < 8; frame++) {
                    due("frameCell(" + frame + ", 1), which stays", x.frameCell(frame, 1), 1000 + 10 * (7 - frame) + 1);
                }
            }
        }
    }

    private static void setHostWithinBounds() {
        sentence = "Answers 0";
        for (int middle = 0; middle < 8; middle += 7) {
            for (int frame = -1; frame < 8; frame++) {
                ShadowPager x = new ShadowPager();
                for (int page = 0; page < 8; page++) {
                    x.setGuest(0, page, page, 7);
                }
                String call = "setHost(" + middle + ", " + frame + ", 7)";
                due(call, x.setHost(middle, frame, 7), 0);
                for (int page = 0; page < 8; page++) {
                    due("fetch(" + page + ") after " + call, x.fetch(page), page == middle && frame != -1 ? frame : HOST);
                }
            }
        }
    }

    private static void refusedSetHost(int middle, int frame) {
        String call = "setHost(" + middle + ", " + frame + ", ";
        refused(call + "5)", BAD, x -> x.setHost(middle, frame, 5), STATES);
        refused(call + "0)", BAD, x -> x.setHost(middle, frame, 0), STATES);
    }

    private static void setHostWrongMiddle() {
        sentence = "BAD, and changes nothing, if middle is not from 0 to 7";
        for (int middle : below(0)) {
            refusedSetHost(middle, 6);
        }
        for (int middle : above(7)) {
            refusedSetHost(middle, 6);
        }
    }

    private static void setHostWrongFrame() {
        sentence = "BAD, and changes nothing, if frame is not from -1 to 7";
        for (int middle = 0; middle < 8; middle += 7) {
            for (int frame : below(-1)) {
                refusedSetHost(middle, frame);
            }
            for (int frame : above(7)) {
                refusedSetHost(middle, frame);
            }
        }
    }

    private static void setHostSeveralWrong() {
        sentence = "BAD, and changes nothing, if middle is not from 0 to 7 or frame is not from -1 to 7.";
        refusedSetHost(-1, -1);
        refusedSetHost(8, -1);
        refusedSetHost(-1, -2);
        refusedSetHost(8, 8);
    }

    // Promise 4.

    private static void change() {
        sentence = "The space space & 1 is present from now on.";
        int[] spaces = {1, 0, -1, -2, -3, 2, 3, 4, 5, 256, 257, MIN, MIN + 1, MAX, MAX - 1, 1, 1, 0, 0};
        ShadowPager x = new ShadowPager();
        full(x);
        for (int space : spaces) {
            x.change(space);
            int frame = (space & 1) == 0 ? 7 : 2;
            due("fetch(0) after change(" + space + ")", x.fetch(0), frame);
            due("fetch(0) again after change(" + space + ")", x.fetch(0), frame);
        }
    }

    // Promises 5, 6 and 7; the order of their codes is under promise 13.

    private static void load() {
        loadWrongPage();
        loadWrongCell();
        loadAnswers0NotTheValue();
    }

    private static void fetch() {
        fetchOfTheFirstAndTheLastFrame();
        fetchNeitherLoadsNorStores();
    }

    private static void loadWrongPage() {
        sentence = "BAD if page is not from 0 to 7 or cell is not from 0 to 3 (page)";
        for (int cell = 0; cell < 4; cell += 3) {
            int c = cell;
            for (int page : below(0)) {
                refused("load(" + page + ", " + c + ")", BAD, x -> x.load(page, c), STATES);
            }
            for (int page : above(7)) {
                refused("load(" + page + ", " + c + ")", BAD, x -> x.load(page, c), STATES);
            }
        }
    }

    private static void loadWrongCell() {
        sentence = "BAD if page is not from 0 to 7 or cell is not from 0 to 3 (cell)";
        for (int page = 0; page < 8; page += 7) {
            int p = page;
            for (int cell : below(0)) {
                refused("load(" + p + ", " + cell + ")", BAD, x -> x.load(p, cell), STATES);
            }
            for (int cell : above(3)) {
                refused("load(" + p + ", " + cell + ")", BAD, x -> x.load(p, cell), STATES);
            }
        }
    }

    private static void loadAnswers0NotTheValue() {
        sentence = "Answers 0 if it reaches a frame: the cell's value is the answer of last() then";
        int[] values = {BAD, GUEST, HOST, 1, MIN, MAX};
        for (int value : values) {
            ShadowPager x = new ShadowPager();
            full(x);
            x.store(5, 0, value);
            due("load(5, 0) of " + value, x.load(5, 0), 0);
            due("last() of " + value, x.last(), value);
        }
    }

    private static void storeThatIsRefusedChangesNothing() {
        sentence = "BAD; GUEST; HOST (nothing is changed then)";
        State guestLacks = entries("object whose guest does not let write", 2, 5, 5, 7);
        State hostLacks = entries("object whose host does not let write", 2, 7, 5, 5);
        State guestNothing = entries("object whose guest entry is nothing", -1, 7, 5, 7);
        State hostNothing = entries("object whose host entry is nothing", 2, 7, -1, 7);
        for (int cell = 0; cell < 4; cell++) {
            int c = cell;
            String call = "store(2, " + cell + ", 9)";
            refused(call, GUEST, x -> x.store(2, c, 9), guestLacks, guestNothing);
            refused(call, HOST, x -> x.store(2, c, 9), hostLacks, hostNothing);
        }
        refused("store(2, 4, 9)", BAD, x -> x.store(2, 4, 9), guestLacks, guestNothing, hostLacks, hostNothing, FULL);
    }

    private static void fetchOfTheFirstAndTheLastFrame() {
        sentence = "Answers the frame that it reaches";
        for (int page = 0; page < 8; page++) {
            ShadowPager x = new ShadowPager();
            x.setGuest(0, page, 7 - page, 4);
            x.setHost(7 - page, page, 4);
            due("fetch(" + page + ")", x.fetch(page), page);
        }
    }

    private static void fetchNeitherLoadsNorStores() {
        sentence = "An access with right 4, to cell 0.";
        ShadowPager x = new ShadowPager();
        full(x);
        due("last() before", x.last(), 1072);
        due("fetch(6)", x.fetch(6), 1);
        due("last() after", x.last(), 1072);
        due("frameCell(1, 0) after", x.frameCell(1, 0), 1060);
        due("hostMark(4), set without a store since", x.hostMark(4), 0);
        due("fetch(4)", x.fetch(4), 3);
        due("hostMark(4) after", x.hostMark(4), 0);
    }

    // Promise 8.

    private static void last() {
        lastIs0WithoutLoad();
        lastIsAsItWasThen();
        lastStaysWhenALoadIsRefused();
    }

    private static void lastIs0WithoutLoad() {
        sentence = "0 if there was none";
        ShadowPager x = new ShadowPager();
        due("last() of a new object", x.last(), 0);
        x.setGuest(0, 0, 3, 6);
        x.setHost(3, 5, 7);
        x.store(0, 0, 9);
        x.fetch(0);
        x.frameCell(5, 0);
        due("last() after store, fetch and frameCell", x.last(), 0);
        due("load(0, 0) without right 1", x.load(0, 0), GUEST);
        due("last() after GUEST", x.last(), 0);
        x.setGuest(0, 0, 3, 7);
        x.setHost(3, 5, 6);
        due("load(0, 0) without the host's right 1", x.load(0, 0), HOST);
        due("last() after HOST", x.last(), 0);
        due("load(0, 4)", x.load(0, 4), BAD);
        due("last() after BAD", x.last(), 0);
    }

    private static void lastIsAsItWasThen() {
        sentence = "The value of the cell that the last load which answered 0 reached, as it was then";
        ShadowPager x = new ShadowPager();
        full(x);
        x.load(4, 1);
        x.store(4, 1, 5);
        due("last() after the cell is stored anew", x.last(), 1041);
        x.setHost(4, 0, 7);
        due("last() after the frame is another", x.last(), 1041);
        x.setGuest(0, 4, -1, 7);
        due("last() after the entry is nothing", x.last(), 1041);
        x.change(1);
        due("last() after a change of space", x.last(), 1041);
        x.age(0);
        x.age(1);
        due("last() after age", x.last(), 1041);
        due("last() again", x.last(), 1041);
        x.load(4, 1);
        due("last() after a load in space 1", x.last(), 1011);
    }

    private static void lastStaysWhenALoadIsRefused() {
        sentence = "the last load which answered 0";
        ShadowPager x = new ShadowPager();
        full(x);
        x.load(4, 1);
        x.setGuest(0, 5, 5, 6);
        x.setHost(6, 1, 6);
        due("load(5, 0)", x.load(5, 0), GUEST);
        due("last() after GUEST", x.last(), 1041);
        due("load(6, 0)", x.load(6, 0), HOST);
        due("last() after HOST", x.last(), 1041);
        due("load(8, 0)", x.load(8, 0), BAD);
        due("load(-1, 0)", x.load(-1, 0), BAD);
        due("load(3, 4)", x.load(3, 4), BAD);
        due("load(3, -1)", x.load(3, -1), BAD);
        due("last() after BAD", x.last(), 1041);
    }

    // Promises 9 to 12.

    private static void marks() {
        marksOfEachKind();
        marksOfNothing();
        marksWrongSpace();
        marksWrongPage();
    }

    private static void marksOfEachKind() {
        sentence = "The marks of the guest entry of the page in the space: 1 if touched, plus 2 if changed";
        int[] space0 = {0, 1, 2, 2, 2, 2, 2, 3};
        int[] space1 = {3, 0, 0, 0, 0, 0, 0, 1};
        ShadowPager x = new ShadowPager();
        full(x);
        for (int look = 0; look < 2; look++) {
            for (int page = 0; page < 8; page++) {
                due("marks(0, " + page + ")", x.marks(0, page), space0[page]);
                due("marks(1, " + page + ")", x.marks(1, page), space1[page]);
            }
            x.change(1);
        }
    }

    private static void marksOfNothing() {
        sentence = "0 if the entry is nothing";
        for (int space = 0; space < 2; space++) {
            for (int page = 0; page < 8; page++) {
                ShadowPager x = new ShadowPager();
                due("marks(" + space + ", " + page + ") of a new object", x.marks(space, page), 0);
                full(x);
                x.change(space);
                x.store(page, 0, 1);
                x.setGuest(space, page, -1, 7);
                due("marks(" + space + ", " + page + ") of nothing", x.marks(space, page), 0);
                x.load(page, 0);
                x.store(page, 0, 1);
                due("marks(" + space + ", " + page + ") of nothing after faults", x.marks(space, page), 0);
            }
        }
    }

    private static void refusedMarks(int space, int page) {
        refused("marks(" + space + ", " + page + ")", BAD, x -> x.marks(space, page), STATES);
    }

    private static void marksWrongSpace() {
        sentence = "BAD if space is not 0 or 1";
        for (int page = 0; page < 8; page += 7) {
            for (int space : below(0)) {
                refusedMarks(space, page);
            }
            for (int space : above(1)) {
                refusedMarks(space, page);
            }
        }
        refusedMarks(-1, 8);
        refusedMarks(2, -1);
    }

    private static void marksWrongPage() {
        sentence = "BAD if space is not 0 or 1 or page is not from 0 to 7.";
        for (int space = 0; space < 2; space++) {
            for (int page : below(0)) {
                refusedMarks(space, page);
            }
            for (int page : above(7)) {
                refusedMarks(space, page);
            }
        }
    }

    private static void hostMark() {
        hostMarkOfNothing();
        hostMarkWrongMiddle();
    }

    private static void hostMarkOfNothing() {
        sentence = "1 if the changed mark of the middle page's host entry is on, else 0 (also if the entry is nothing)";
        for (int middle = 0; middle < 8; middle++) {
            ShadowPager x = new ShadowPager();
            due("hostMark(" + middle + ") of a new object", x.hostMark(middle), 0);
            full(x);
            due("hostMark(" + middle + ") of a full object", x.hostMark(middle), middle == 4 ? 0 : 1);
            x.store(middle, 0, 1);
            due("hostMark(" + middle + ") after a store", x.hostMark(middle), 1);
            x.setHost(middle, -1, 7);
            due("hostMark(" + middle + ") of nothing", x.hostMark(middle), 0);
            x.store(middle, 0, 1);
            due("hostMark(" + middle + ") of nothing after a fault", x.hostMark(middle), 0);
        }
    }

    private static void hostMarkWrongMiddle() {
        sentence = "BAD if middle is not from 0 to 7.";
        for (int middle : below(0)) {
            refused("hostMark(" + middle + ")", BAD, x -> x.hostMark(middle), STATES);
        }
        for (int middle : above(7)) {
            refused("hostMark(" + middle + ")", BAD, x -> x.hostMark(middle), STATES);
        }
    }

    private static void age() {
        ageOfNoneAndOfAll();
        ageKeepsChangedMarks();
        ageOfOneSpaceAlone();
    }

    private static void ageOfNoneAndOfAll() {
        sentence = "Answers how many were on";
        for (int space = 0; space < 2; space++) {
            for (int touched = 0; touched <= 8; touched++) {
                ShadowPager x = new ShadowPager();
                due("age(" + space + ") of a new object", x.age(space), 0);
                full(x);
                x.change(space);
                x.age(space);
                due("age(" + space + ") of none", x.age(space), 0);
                for (int page = 0; page < touched; page++) {
                    x.fetch(7 - page);
                    x.load(7 - page, 0);
                }
                due("age(" + space + ") of " + touched, x.age(space), touched);
                due("age(" + space + ") again", x.age(space), 0);
            }
        }
        ageCountsNoEntryThatIsNothing();
    }

    private static void ageCountsNoEntryThatIsNothing() {
        ShadowPager x = new ShadowPager();
        full(x);
        x.setGuest(0, 1, -1, 7);
        due("age(0) after one of two touched entries is nothing", x.age(0), 1);
    }

    private static void ageKeepsChangedMarks() {
        sentence = "Turns all touched marks of the space's guest table off (the changed marks stay).";
        int[] space0 = {0, 0, 2, 2, 2, 2, 2, 2};
        ShadowPager x = new ShadowPager();
        full(x);
        due("age(0)", x.age(0), 2);
        for (int page = 0; page < 8; page++) {
            due("marks(0, " + page + ")", x.marks(0, page), space0[page]);
            due("hostMark(" + page + ")", x.hostMark(page), page == 4 ? 0 : 1);
        }
        due("age(1)", x.age(1), 2);
        due("marks(1, 0)", x.marks(1, 0), 2);
        due("marks(1, 7)", x.marks(1, 7), 0);
        for (int page = 0; page < 8; page++) {
            due("store(" + page + ", 0, 3), by entries that stay", x.store(page, 0, 3), 0);
        }
    }

    private static void ageOfOneSpaceAlone() {
        sentence = "Turns all touched marks of the space's guest table off";
        for (int present = 0; present < 2; present++) {
            for (int space = 0; space < 2; space++) {
                ShadowPager x = new ShadowPager();
                full(x);
                x.change(present);
                due("age(" + space + ") while " + present + " is present", x.age(space), 2);
                due("marks(0, 7) after age(" + space + ")", x.marks(0, 7), space == 0 ? 2 : 3);
                due("marks(1, 0) after age(" + space + ")", x.marks(1, 0), space == 1 ? 2 : 3);
                due("marks(1, 7) after age(" + space + ")", x.marks(1, 7), space == 1 ? 0 : 1);
                due("fetch(0), in the space that stays present", x.fetch(0), present == 0 ? 7 : 2);
            }
        }
    }

    private static void frameCell() {
        frameCellWrongFrame();
        frameCellWrongCell();
        frameCellBothWrong();
        frameCellOfEveryCell();
    }

    private static void zeroFrameCell(int frame, int cell) {
        refused("frameCell(" + frame + ", " + cell + ")", 0, x -> x.frameCell(frame, cell), STATES);
    }

    private static void frameCellWrongFrame() {
        sentence = "0 if frame is not from 0 to 7";
        for (int cell = 0; cell < 4; cell++) {
            for (int frame : below(0)) {
                zeroFrameCell(frame, cell);
            }
            for (int frame : above(7)) {
                zeroFrameCell(frame, cell);
            }
        }
    }

    private static void frameCellWrongCell() {
        sentence = "0 if frame is not from 0 to 7 or cell is not from 0 to 3.";
        for (int frame = 0; frame < 8; frame++) {
            for (int cell : below(0)) {
                zeroFrameCell(frame, cell);
            }
            for (int cell : above(3)) {
                zeroFrameCell(frame, cell);
            }
        }
    }

    private static void frameCellBothWrong() {
        sentence = "0 if frame is not from 0 to 7 or cell is not from 0 to 3 (both)";
        zeroFrameCell(-1, 4);
        zeroFrameCell(-1, 7);
        zeroFrameCell(8, -1);
        zeroFrameCell(8, -4);
        zeroFrameCell(8, 4);
        zeroFrameCell(-1, -1);
        zeroFrameCell(MIN, MAX);
    }

    private static void frameCellOfEveryCell() {
        sentence = "The value of the cell of the frame";
        ShadowPager x = new ShadowPager();
        full(x);
        for (int frame = 0; frame < 8; frame++) {
            for (int cell = 0; cell < 4; cell++) {
                int want = frame == 2 && cell == 3 ? 2000 : 1000 + 10 * (7 - frame) + cell;
                due("frameCell(" + frame + ", " + cell + ")", x.frameCell(frame, cell), want);
            }
        }
    }

    // Promise 13.

    private static void orderAndLimits() {
        badBeforeGuest();
        badBeforeHost();
        badWhereTheAccessWouldReach();
        guestBeforeHost();
        fetchWrongPage();
        storeWrongPage();
        storeWrongCell();
        ageWrongSpace();
        aRefusedCallChangesNothing();
    }

    private static void badInEveryAccess(State... states) {
        for (int right : RIGHTS) {
            refused(accessName(right, -1, 0), BAD, x -> access(x, right, -1, 0), states);
            refused(accessName(right, 8, 0), BAD, x -> access(x, right, 8, 0), states);
        }
        for (int right = 1; right <= 2; right++) {
            int r = right;
            refused(accessName(r, 2, -1), BAD, x -> access(x, r, 2, -1), states);
            refused(accessName(r, 2, 4), BAD, x -> access(x, r, 2, 4), states);
        }
    }

    private static void badBeforeGuest() {
        sentence = "load, store, fetch: BAD is tested before the access is worked out. (GUEST)";
        State nothing = entries("object where page 2 is nothing", -1, 7, 5, 7);
        State lacking = entries("object where page 2 has no rights", 2, 0, 5, 7);
        badInEveryAccess(FRESH, nothing, lacking);
    }

    private static void badBeforeHost() {
        sentence = "load, store, fetch: BAD is tested before the access is worked out. (HOST)";
        State nothing = entries("object where middle page 2 is nothing", 2, 7, -1, 7);
        State lacking = entries("object where middle page 2 has no rights", 2, 7, 5, 0);
        badInEveryAccess(nothing, lacking);
    }

    private static void badWhereTheAccessWouldReach() {
        sentence = "load, store, fetch: BAD is tested before the access is worked out. (neither)";
        badInEveryAccess(FULL, FULL_IN_SPACE_1);
    }

    private static void guestBeforeHost() {
        sentence = "GUEST fault. Else, with its middle page";
        State nothings = entries("object with nothing and nothing", -1, 7, -1, 7);
        State noRights = entries("object without rights and without rights", 2, 0, 5, 0);
        State noRightsNothing = entries("object without rights and nothing", 2, 0, -1, 7);
        State nothingNoRights = entries("object with nothing and without rights", -1, 7, 5, 0);
        for (int right : RIGHTS) {
            refused(accessName(right, 2, 0), GUEST, x -> access(x, right, 2, 0),
                nothings, noRights, noRightsNothing, nothingNoRights, FRESH);
            State bothLack = entries("object where both lack right " + right, 2, 7 - right, 5, 7 - right);
            State crossed = entries("object whose host has right " + right + " alone", 2, 7 - right, 5, right);
            refused(accessName(right, 2, 0), GUEST, x -> access(x, right, 2, 0), bothLack, crossed);
        }
    }

    private static void fetchWrongPage() {
        sentence = "fetch: BAD if page is not from 0 to 7.";
        for (int page : below(0)) {
            refused("fetch(" + page + ")", BAD, x -> x.fetch(page), STATES);
        }
        for (int page : above(7)) {
            refused("fetch(" + page + ")", BAD, x -> x.fetch(page), STATES);
        }
    }

    private static void storeWrongPage() {
        sentence = "store: BAD as in load. (page)";
        for (int cell = 0; cell < 4; cell += 3) {
            int c = cell;
            for (int page : below(0)) {
                refused("store(" + page + ", " + c + ", 9)", BAD, x -> x.store(page, c, 9), STATES);
            }
            for (int page : above(7)) {
                refused("store(" + page + ", " + c + ", 9)", BAD, x -> x.store(page, c, 9), STATES);
            }
        }
    }

    private static void storeWrongCell() {
        sentence = "store: BAD as in load. (cell)";
        for (int page = 0; page < 8; page += 7) {
            int p = page;
            for (int cell : below(0)) {
                refused("store(" + p + ", " + cell + ", 9)", BAD, x -> x.store(p, cell, 9), STATES);
            }
            for (int cell : above(3)) {
                refused("store(" + p + ", " + cell + ", 9)", BAD, x -> x.store(p, cell, 9), STATES);
            }
        }
    }

    private static void ageWrongSpace() {
        sentence = "age: BAD if space is not 0 or 1.";
        for (int space : below(0)) {
            refused("age(" + space + ")", BAD, x -> x.age(space), STATES);
        }
        for (int space : above(1)) {
            refused("age(" + space + ")", BAD, x -> x.age(space), STATES);
        }
    }

    /** One refused call of each kind after the other, on one object: together too they change nothing. */
    private static void aRefusedCallChangesNothing() {
        sentence = "Where nothing else is said, a call that is refused (by a code below 0 that is named, or by false) changes nothing.";
        State faults = entries("object with a GUEST and a HOST fault", -1, 7, 5, 0);
        State state = new State("object with faults of both kinds", x -> faults.make.on(x) + x.setGuest(0, 3, 2, 7));
        refused("a row of refused calls", 0, x -> rowOfRefusedCalls(x), state);
    }

    private static int rowOfRefusedCalls(ShadowPager x) {
        due("setGuest(2, 0, 0, 7)", x.setGuest(2, 0, 0, 7), BAD);
        due("setHost(8, 0, 7)", x.setHost(8, 0, 7), BAD);
        for (int right : RIGHTS) {
            due(accessName(right, 8, 0), access(x, right, 8, 0), BAD);
            due(accessName(right, 2, 0), access(x, right, 2, 0), GUEST);
            due(accessName(right, 3, 0), access(x, right, 3, 0), HOST);
        }
        due("marks(2, 0)", x.marks(2, 0), BAD);
        due("hostMark(8)", x.hostMark(8), BAD);
        due("age(2)", x.age(2), BAD);
        return 0;
    }
}
