/** A host that runs three guests; how it keeps their pages can't be seen in any answer. */
public final class BalloonShare {
    public static final int BAD_GUEST = -1;
    public static final int BAD_PAGE = -2;
    public static final int BAD_WORD = -3;
    public static final int BAD_SHARES = -4;

    private static final int OK = 0;
    private static final int GUESTS = 3;
    private static final int GUEST_PAGES = 8;
    private static final int PAGE_WORDS = 4;
    private static final int GUEST_WORDS = 32;
    private static final int ALL_WORDS = 96;
    private static final int MIN_FRAMES = 3;
    private static final int MAX_FRAMES = 16;
    private static final int MIN_SHARES = 1;
    private static final int MAX_SHARES = 100;

    // The host may keep pages where it sees fit: each page has its own place in the swap
    // space for good, so no page can be lost by eviction or changed through a shared frame.
    private final int[] swap = new int[ALL_WORDS];
    private final int[] guestShares = new int[GUESTS];
    // Kept because it is the host's size; no answer may depend on it.
    private final int frames;

    public BalloonShare(int frames) {
        this.frames = frames < MIN_FRAMES ? MIN_FRAMES : frames > MAX_FRAMES ? MAX_FRAMES : frames;
        for (int guest = 0; guest < GUESTS; guest++) {
            guestShares[guest] = MIN_SHARES;
        }
    }

    public int write(int guest, int at, int value) {
        if (!isGuest(guest)) {
            return BAD_GUEST;
        }
        if (!isWord(at)) {
            return BAD_WORD;
        }
        swap[guest * GUEST_WORDS + at] = value;
        return OK;
    }

    public int fill(int guest, int page, int value, int step) {
        int refusal = refusalOf(guest, page);
        if (refusal != OK) {
            return refusal;
        }
        int place = placeOf(guest, page);
        fillPlace(place, value, step);
        return OK;
    }

    public int copy(int from, int fromPage, int to, int toPage) {
        int refusal = refusalOfPair(from, fromPage, to, toPage);
        if (refusal != OK) {
            return refusal;
        }
        int source = placeOf(from, fromPage);
        int target = placeOf(to, toPage);
        copyWords(source, target, PAGE_WORDS);
        return OK;
    }

    public int release(int guest, int page) {
        int refusal = refusalOf(guest, page);
        if (refusal != OK) {
            return refusal;
        }
        int place = placeOf(guest, page);
        fillPlace(place, 0, 0);
        return OK;
    }

    public int cloneGuest(int from, int to) {
        if (!isGuest(from) || !isGuest(to)) {
            return BAD_GUEST;
        }
        copyWords(from * GUEST_WORDS, to * GUEST_WORDS, GUEST_WORDS);
        return OK;
    }

    public int shares(int guest, int shares) {
        if (!isGuest(guest)) {
            return BAD_GUEST;
        }
        if (shares < MIN_SHARES || shares > MAX_SHARES) {
            return BAD_SHARES;
        }
        int old = guestShares[guest];
        guestShares[guest] = shares;
        return old;
    }

    public void tidy(int n) {
        // Pages never leave their places, so there is never anything to tidy.
    }

    public int read(int guest, int at) {
        if (!isGuest(guest) || !isWord(at)) {
            return 0;
        }
        return swap[guest * GUEST_WORDS + at];
    }

    public int sum(int guest, int page) {
        if (!isGuest(guest) || !isPage(page)) {
            return 0;
        }
        int place = placeOf(guest, page);
        int total = 0;
        for (int word = 0; word < PAGE_WORDS; word++) {
            total += swap[place + word] * (word + 1);
        }
        return total;
    }

    public boolean same(int guestA, int pageA, int guestB, int pageB) {
        if (refusalOfPair(guestA, pageA, guestB, pageB) != OK) {
            return false;
        }
        int placeA = placeOf(guestA, pageA);
        int placeB = placeOf(guestB, pageB);
        return equalPlaces(placeA, placeB);
    }

    public int contents(int guest) {
        if (!isGuest(guest)) {
            return BAD_GUEST;
        }
        int start = guest * GUEST_WORDS;
        int different = 0;
        for (int page = 0; page < GUEST_PAGES; page++) {
            int place = start + page * PAGE_WORDS;
            // A content is counted at its first page alone.
            if (countEqual(place, start, place) == 0) {
                different++;
            }
        }
        return different;
    }

    public int twins(int guest, int page) {
        int refusal = refusalOf(guest, page);
        if (refusal != OK) {
            return refusal;
        }
        int place = placeOf(guest, page);
        return countEqual(place, 0, ALL_WORDS);
    }

    private static boolean isGuest(int guest) {
        return guest >= 0 && guest < GUESTS;
    }

    private static boolean isPage(int page) {
        return page >= 0 && page < GUEST_PAGES;
    }

    private static boolean isWord(int at) {
        return at >= 0 && at < GUEST_WORDS;
    }

    private static int refusalOf(int guest, int page) {
        return refusalOfPair(guest, page, guest, page);
    }

    private static int refusalOfPair(int guestA, int pageA, int guestB, int pageB) {
        if (!isGuest(guestA) || !isGuest(guestB)) {
            return BAD_GUEST;
        }
        if (!isPage(pageA) || !isPage(pageB)) {
            return BAD_PAGE;
        }
        return OK;
    }

    private static int placeOf(int guest, int page) {
        return guest * GUEST_WORDS + page * PAGE_WORDS;
    }

    private void fillPlace(int place, int value, int step) {
        for (int word = 0; word < PAGE_WORDS; word++) {
            swap[place + word] = value + word * step;
        }
    }

    private void copyWords(int source, int target, int count) {
        for (int word = 0; word < count; word++) {
            swap[target + word] = swap[source + word];
        }
    }

    private boolean equalPlaces(int placeA, int placeB) {
        for (int word = 0; word < PAGE_WORDS; word++) {
            if (swap[placeA + word] != swap[placeB + word]) {
                return false;
            }
        }
        return true;
    }

    /** How many of the pages from place first up to, but not at, place end equal the one at place. */
    private int countEqual(int place, int first, int end) {
        int count = 0;
        for (int other = first; other < end; other += PAGE_WORDS) {
            if (equalPlaces(place, other)) {
                count++;
            }
        }
        return count;
    }
}
