/** A guest's memory behind two sets of page tables, one that the guest keeps and one that the host keeps. */
public final class ShadowPager {
    public static final int BAD = -1;
    public static final int GUEST = -2;
    public static final int HOST = -3;

    private static final int SPACES = 2;
    // Guest pages, middle pages and frames are equally many, so one bound serves all three.
    private static final int PAGES = 8;
    private static final int CELLS = 4;
    private static final int GUEST_ENTRIES = 16;
    private static final int FRAME_CELLS = 32;

    private static final int NOTHING = -1;
    private static final int ALL_RIGHTS = 7;
    private static final int READ = 1;
    private static final int WRITE = 2;
    private static final int RUN = 4;

    private static final int TOUCHED = 1;
    private static final int CHANGED = 2;

    // Both guest tables lie in one array, because arrays of arrays are ruled out.
    private final int[] guestMiddle = new int[GUEST_ENTRIES];
    private final int[] guestRights = new int[GUEST_ENTRIES];
    private final int[] guestMarks = new int[GUEST_ENTRIES];

    private final int[] hostFrame = new int[PAGES];
    private final int[] hostRights = new int[PAGES];
    private final int[] hostChanged = new int[PAGES];

    private final int[] cells = new int[FRAME_CELLS];

    private int presentSpace = 0;
    private int lastLoaded = 0;

    public ShadowPager() {
        for (int entry = 0; entry < GUEST_ENTRIES; entry++) {
            guestMiddle[entry] = NOTHING;
        }
        for (int middle = 0; middle < PAGES; middle++) {
            hostFrame[middle] = NOTHING;
        }
    }

    public int setGuest(int space, int page, int middle, int rights) {
        if (!isSpace(space) || !isPage(page) || !isPageOrNothing(middle)) {
            return BAD;
        }
        int entry = guestEntry(space, page);
        guestMiddle[entry] = middle;
        guestRights[entry] = rights & ALL_RIGHTS;
        guestMarks[entry] = 0;
        return 0;
    }

    public int setHost(int middle, int frame, int rights) {
        if (!isPage(middle) || !isPageOrNothing(frame)) {
            return BAD;
        }
        hostFrame[middle] = frame;
        hostRights[middle] = rights & ALL_RIGHTS;
        hostChanged[middle] = 0;
        return 0;
    }

    public void change(int space) {
        presentSpace = space & 1;
    }

    public int load(int page, int cell) {
        if (!isPage(page) || !isCell(cell)) {
            return BAD;
        }
        int frame = reachFrame(page, READ);
        if (frame < 0) {
            return frame;
        }
        lastLoaded = cells[cellIndex(frame, cell)];
        return 0;
    }

    public int store(int page, int cell, int value) {
        if (!isPage(page) || !isCell(cell)) {
            return BAD;
        }
        int frame = reachFrame(page, WRITE);
        if (frame < 0) {
            return frame;
        }
        cells[cellIndex(frame, cell)] = value;
        return 0;
    }

    public int fetch(int page) {
        if (!isPage(page)) {
            return BAD;
        }
        return reachFrame(page, RUN);
    }

    public int last() {
        return lastLoaded;
    }

    public int marks(int space, int page) {
        if (!isSpace(space) || !isPage(page)) {
            return BAD;
        }
        return guestMarks[guestEntry(space, page)];
    }

    public int hostMark(int middle) {
        if (!isPage(middle)) {
            return BAD;
        }
        return hostChanged[middle];
    }

    public int age(int space) {
        if (!isSpace(space)) {
            return BAD;
        }
        int touched = 0;
        for (int page = 0; page < PAGES; page++) {
            int entry = guestEntry(space, page);
            if ((guestMarks[entry] & TOUCHED) != 0) {
                touched++;
                guestMarks[entry] = guestMarks[entry] & CHANGED;
            }
        }
        return touched;
    }

    public int frameCell(int frame, int cell) {
        if (!isPage(frame) || !isCell(cell)) {
            return 0;
        }
        return cells[cellIndex(frame, cell)];
    }

    // Every fault is found before any mark is turned on, so that a refused access changes nothing.
    private int reachFrame(int page, int right) {
        int entry = guestEntry(presentSpace, page);
        int middle = guestMiddle[entry];
        if (middle == NOTHING || (guestRights[entry] & right) == 0) {
            return GUEST;
        }
        int frame = hostFrame[middle];
        if (frame == NOTHING || (hostRights[middle] & right) == 0) {
            return HOST;
        }
        turnMarksOn(entry, middle, right);
        return frame;
    }

    private void turnMarksOn(int entry, int middle, int right) {
        guestMarks[entry] = guestMarks[entry] | TOUCHED;
        if (right == WRITE) {
            guestMarks[entry] = guestMarks[entry] | CHANGED;
            hostChanged[middle] = 1;
        }
    }

    private static int guestEntry(int space, int page) {
        return space * PAGES + page;
    }

    private static int cellIndex(int frame, int cell) {
        return frame * CELLS + cell;
    }

    private static boolean isSpace(int space) {
        return space >= 0 && space < SPACES;
    }

    private static boolean isPage(int page) {
        return page >= 0 && page < PAGES;
    }

    private static boolean isPageOrNothing(int page) {
        return page == NOTHING || isPage(page);
    }

    private static boolean isCell(int cell) {
        return cell >= 0 && cell < CELLS;
    }
}
