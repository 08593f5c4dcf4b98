import java.lang.reflect.Field;
import java.util.Arrays;

/**
 * A test of its own for each sentence of the document that names a boundary case. The sentence is
 * quoted where the test is listed, and a failure is told under it.
 */
public final class BoundaryTest {
    private static final int MIN = Integer.MIN_VALUE;
    private static final int MAX = Integer.MAX_VALUE;
    private static final int BAD_GUEST = -1;
    private static final int BAD_PAGE = -2;
    private static final int BAD_WORD = -3;
    private static final int BAD_SHARES = -4;

    // The last ones come back into range if a program multiplies or masks before it looks.
    private static final int[] LOW = {-1, -2, -3, -4, -8, -32, MIN, MIN + 1, MIN / 2, -(1 << 27), -(1 << 29)};
    private static final int[] GUESTS_HIGH = {3, 4, 5, 8, MAX, MAX - 1, 1 << 27, 1 << 30, 256, 65536};
    private static final int[] PAGES_HIGH = {8, 9, 15, 16, 24, 31, 32, MAX, MAX - 1, 1 << 29, 1 << 30, 256, 65536};
    private static final int[] WORDS_HIGH = {32, 33, 35, 36, 63, 64, 95, 96, MAX, MAX - 1, 1 << 30, 256, 65536};
    private static final int[] GUESTS_BAD = joined(LOW, GUESTS_HIGH);
    private static final int[] PAGES_BAD = joined(LOW, PAGES_HIGH);
    private static final int[] WORDS_BAD = joined(LOW, WORDS_HIGH);
    private static final int[] SHARES_LOW = {0, -1, -2, -100, MIN, MIN + 1};
    private static final int[] SHARES_HIGH = {101, 102, 200, 257, 65537, MAX, MAX - 1};
    private static final int[] SHARES_BAD = joined(SHARES_LOW, SHARES_HIGH);
    private static final int[] FRAMES = {MIN, -1, 0, 1, 2, 3, 4, 8, 15, 16, 17, 23, 24, 25, 96, MAX};
    private static final int[] ANY = {0, 1, -1, 2, 3, 4, 7, 16, 17, 24, 100, 512, MIN, MIN + 1, MAX, MAX - 1};
    private static final int[] FULL_SHARES = {1, 100, 50};

    private interface Test {
        void run() throws ReflectiveOperationException;
    }

    private interface Call {
        long on(BalloonShare x);
    }

    private static String sentence = "";
    private static int tests = 0;
    private static int wrong = 0;
    private static int wrongHere = 0;

    public static void main(String[] args) {
        whatItIs();
        terms();
        promises1To3();
        promises4To6();
        promises7To9();
        promises10To13();
        System.out.println(tests + " sentences tested, " + wrong + " of them do not hold");
        if (wrong != 0) {
            System.exit(1);
        }
    }

    private static void whatItIs() {
        test("What it is", "three guests (0 to 2)", BoundaryTest::firstAndLastGuest);
        test("What it is", "at most 512 calls", BoundaryTest::call512);
    }

    private static void terms() {
        test("Terms", "eight pages (0 to 7) of four words each", BoundaryTest::firstAndLastPage);
        test("Terms", "all 0 at the start", BoundaryTest::startsEmpty);
        test("Terms", "as if they were its own", BoundaryTest::guestsApart);
        test("Terms", "The host has fewer frames than that", BoundaryTest::fullHost);
        test("Terms", "Every page reads as what was last written to it.", BoundaryTest::lastWritten);
        test("Terms", "In every call a guest not in 0 to 2 is BAD_GUEST", BoundaryTest::badGuestInEveryCall);
        test("Terms", "tested first", BoundaryTest::guestTestedFirst);
        test("Terms", "then a page not in 0 to 7 is BAD_PAGE", BoundaryTest::badPageInEveryCall);
        test("Terms", "a refused call changes nothing", BoundaryTest::refusedChangesNothing);
        test("Terms", "both guests are tested first, then both pages", BoundaryTest::guestsBeforePages);
        test("Terms", "The calls below change nothing that any call answers.", BoundaryTest::queriesChangeNothing);
    }

    private static void promises1To3() {
        test("Promise 1", "below 3 becomes 3", BoundaryTest::framesBelow);
        test("Promise 1", "above 16 becomes 16", BoundaryTest::framesAbove);
        test("Promise 1", "frames is clamped into 3 to 16", BoundaryTest::framesBetween);
        test("Promise 1", "changes nothing that any call answers", BoundaryTest::framesUnseen);
        test("Promise 1", "All words are 0", BoundaryTest::newWords);
        test("Promise 1", "every guest has 1 share", BoundaryTest::newShares);

        test("Promise 2", "Writes word at % 4 of page at / 4", BoundaryTest::writeEachWord);
        test("Promise 2", "(any int)", BoundaryTest::writeAnyInt);
        test("Promise 2", "BAD_GUEST", BoundaryTest::writeBadGuest);
        test("Promise 2", "at not in 0 to 31: BAD_WORD (too small)", BoundaryTest::writeAtTooSmall);
        test("Promise 2", "at not in 0 to 31: BAD_WORD (too large)", BoundaryTest::writeAtTooLarge);
        test("Promise 2", "Else answers 0", BoundaryTest::writeAnswersZero);

        test("Promise 3", "Writes all four words of a page", BoundaryTest::fillWholePage);
        test("Promise 3", "(wrapping)", BoundaryTest::fillWraps);
        test("Promise 3", "BAD_GUEST", BoundaryTest::fillBadGuest);
        test("Promise 3", "BAD_PAGE", BoundaryTest::fillBadPage);
        test("Promise 3", "Else answers 0", BoundaryTest::fillAnswersZero);
    }

    private static void promises4To6() {
        test("Promise 4", "the four words that page 'fromPage' of guest 'from' has now", BoundaryTest::copyEachPair);
        test("Promise 4", "the two pages stay independent", BoundaryTest::copyIndependent);
        test("Promise 4", "BAD_GUEST", BoundaryTest::copyBadGuest);
        test("Promise 4", "BAD_PAGE", BoundaryTest::copyBadPage);
        test("Promise 4", "Else answers 0", BoundaryTest::copyAnswersZero);

        test("Promise 5", "its four words become 0", BoundaryTest::releaseFullAndEmpty);
        test("Promise 5", "BAD_GUEST", BoundaryTest::releaseBadGuest);
        test("Promise 5", "BAD_PAGE", BoundaryTest::releaseBadPage);
        test("Promise 5", "Else answers 0", BoundaryTest::releaseAnswersZero);

        test("Promise 6", "the words of all eight pages of guest 'from' as they are now", BoundaryTest::cloneAllPages);
        test("Promise 6", "from == to changes nothing", BoundaryTest::cloneToItself);
        test("Promise 6", "BAD_GUEST", BoundaryTest::cloneBadGuest);
        test("Promise 6", "Else answers 0", BoundaryTest::cloneAnswersZero);
    }

    private static void promises7To9() {
        test("Promise 7", "changes nothing that any other call answers", BoundaryTest::sharesUnseen);
        test("Promise 7", "BAD_GUEST", BoundaryTest::sharesBadGuest);
        test("Promise 7", "shares not in 1 to 100: BAD_SHARES (too small)", BoundaryTest::sharesTooSmall);
        test("Promise 7", "shares not in 1 to 100: BAD_SHARES (too large)", BoundaryTest::sharesTooLarge);
        test("Promise 7", "Else answers the old number", BoundaryTest::sharesOldNumber);

        test("Promise 8", "Changes nothing that any call answers.", BoundaryTest::tidyUnseen);
        test("Promise 8", "n any int", BoundaryTest::tidyAnyInt);

        test("Promise 9", "Word at % 4 of page at / 4", BoundaryTest::readEachWord);
        test("Promise 9", "0 if the guest is out of range", BoundaryTest::readBadGuest);
        test("Promise 9", "or at is not in 0 to 31 (too small)", BoundaryTest::readAtTooSmall);
        test("Promise 9", "or at is not in 0 to 31 (too large)", BoundaryTest::readAtTooLarge);
    }

    private static void promises10To13() {
        test("Promise 10", "the word number w times w + 1", BoundaryTest::sumEachWord);
        test("Promise 10", "The sum (wrapping)", BoundaryTest::sumWraps);
        test("Promise 10", "0 if guest or page is out of range (guest)", BoundaryTest::sumBadGuest);
        test("Promise 10", "0 if guest or page is out of range (page)", BoundaryTest::sumBadPage);

        test("Promise 11", "Whether two pages have the same four words", BoundaryTest::sameButOneWord);
        test("Promise 11", "false if a guest or page is out of range (guest)", BoundaryTest::sameBadGuest);
        test("Promise 11", "false if a guest or page is out of range (page)", BoundaryTest::sameBadPage);

        test("Promise 12", "How many different contents", BoundaryTest::contentsOneToEight);
        test("Promise 12", "(of four words)", BoundaryTest::contentsEachWord);
        test("Promise 12", "BAD_GUEST", BoundaryTest::contentsBadGuest);

        test("Promise 13", "How many of the 24 pages of all guests have the same words", BoundaryTest::twinsOneTo24);
        test("Promise 13", "(itself counted in)", BoundaryTest::twinsItself);
        test("Promise 13", "BAD_GUEST", BoundaryTest::twinsBadGuest);
        test("Promise 13", "BAD_PAGE", BoundaryTest::twinsBadPage);
    }

    // ---- What it is

    private static void firstAndLastGuest() {
        for (int guest = 0; guest <= 2; guest++) {
            int g = guest;
            BalloonShare x = new BalloonShare(3);
            due("write of guest " + g, x.write(g, 0, 5), 0);
            due("read of guest " + g, x.read(g, 0), 5);
            due("fill of guest " + g, x.fill(g, 1, 5, 0), 0);
            due("sum of guest " + g, x.sum(g, 1), 50);
            due("copy from guest " + g, x.copy(g, 0, 1, 2), 0);
            due("copy to guest " + g, x.copy(1, 0, g, 3), 0);
            due("same of guest " + g, x.same(g, 6, g, 7), 1);
            due("release of guest " + g, x.release(g, 0), 0);
            due("contents of guest " + g, x.contents(g) > 0 ? 1 : 0, 1);
            due("twins of guest " + g, x.twins(g, 7) > 0 ? 1 : 0, 1);
            due("shares of guest " + g, x.shares(g, 2), 1);
            due("cloneGuest from guest " + g, x.cloneGuest(g, 1), 0);
            due("cloneGuest to guest " + g, x.cloneGuest(1, g), 0);
            for (int past : new int[] {-1, 3}) {
                due("write of guest " + past, x.write(past, 0, 5), BAD_GUEST);
            }
        }
    }

    /** The change is call 511 and the answer that shows it call 512, the last that is promised. */
    private static void call512() {
        seenByCall512("write", x -> x.write(2, 31, -7), x -> x.read(2, 31), -7);
        seenByCall512("fill", x -> x.fill(2, 7, 5, 5), x -> x.sum(2, 7), 5 + 20 + 45 + 80);
        seenByCall512("copy", x -> x.copy(0, 0, 2, 7), x -> x.same(0, 0, 2, 7) ? 1 : 0, 1);
        seenByCall512("release", x -> x.release(0, 3), x -> x.read(0, 12), 0);
        seenByCall512("cloneGuest", x -> x.cloneGuest(0, 2), x -> x.twins(0, 5), 2);
        seenByCall512("shares", x -> x.shares(1, 77), x -> x.shares(1, 78), 77);
        seenByCall512("tidy", x -> tidied(x, 1), x -> x.read(1, 0), fullWords()[32]);
        seenByCall512("release and contents", x -> x.release(1, 7), x -> x.contents(1), 8);
        for (int bad : new int[] {-1, 3}) {
            seenByCall512("a refused call", x -> x.read(bad, 0), x -> x.write(bad, 0, 1), BAD_GUEST);
        }
    }

    private static void seenByCall512(String what, Call change, Call answer, long want) {
        for (int kind = 0; kind < 8; kind++) {
            BalloonShare x = full(3);
            for (int call = 28; call <= 510; call++) {
                idleCall(x, kind < 7 ? kind : call % 7, call);
            }
            change.on(x);
            due("call 512 after " + what + " as call 511", answer.on(x), want);
        }
    }

    /** A call that leaves every word and every share of a full host as it was. */
    private static void idleCall(BalloonShare x, int kind, int call) {
        int page = call % 24;
        int first = fullWords()[4 * page];
        switch (kind) {
            case 0: x.fill(page / 8, page % 8, first, 1); break;
            case 1: x.write(page / 8, page % 8 * 4, first); break;
            case 2: x.copy(page / 8, page % 8, page / 8, page % 8); break;
            case 3: x.cloneGuest(call % 3, call % 3); break;
            case 4: x.tidy(call); break;
            case 5: x.shares(call % 3, FULL_SHARES[call % 3]); break;
            default: x.twins(page / 8, page % 8); break;
        }
    }

    // ---- Terms

    private static void firstAndLastPage() {
        for (int i = 0; i < 24; i++) {
            int guest = i / 8;
            int page = i % 8;
            BalloonShare x = full(3);
            int[] want = fullWords();
            due("fill of page " + page, x.fill(guest, page, -1, -1), 0);
            setPage(want, i, -1, -2, -3, -4);
            dueState("fill(" + guest + ", " + page + ")", x, want);
            BalloonShare y = full(3);
            for (int past : new int[] {-1, 8}) {
                due("fill of page " + past, y.fill(guest, past, -1, -1), BAD_PAGE);
            }
            dueState("fill past the pages", y, fullWords());
        }
    }

    private static void startsEmpty() {
        BalloonShare x = new BalloonShare(16);
        for (int i = 0; i < 24; i++) {
            due("same as the first page", x.same(0, 0, i / 8, i % 8), 1);
            due("sum", x.sum(i / 8, i % 8), 0);
            due("twins", x.twins(i / 8, i % 8), 24);
        }
        dueWords("a new object", x, new int[96]);
    }

    private static void guestsApart() {
        for (int guest = 0; guest < 3; guest++) {
            BalloonShare x = new BalloonShare(3);
            int[] want = new int[96];
            for (int at = 0; at < 32; at++) {
                x.write(guest, at, at + 1);
                want[guest * 32 + at] = at + 1;
            }
            dueWords("writes of guest " + guest, x, want);
            for (int page = 0; page < 8; page++) {
                x.release(guest, page);
            }
            dueWords("releases of guest " + guest, x, new int[96]);
        }
    }

    /** All 24 pages differ, which is more than any host has frames, and stay so through changes. */
    private static void fullHost() {
        for (int frames : new int[] {3, 4, 15, 16}) {
            BalloonShare x = full(frames);
            int[] want = fullWords();
            dueWords("full host of " + frames, x, want);
            for (int i = 23; i >= 0; i--) {
                x.write(i / 8, i % 8 * 4 + i % 4, -i);
                want[4 * i + i % 4] = -i;
                x.tidy(i);
            }
            dueWords("full host of " + frames + ", rewritten", x, want);
            for (int guest = 0; guest < 3; guest++) {
                due("contents of a full host", x.contents(guest), 8);
            }
            x.cloneGuest(1, 0);
            x.cloneGuest(1, 2);
            System.arraycopy(want, 32, want, 0, 32);
            System.arraycopy(want, 32, want, 64, 32);
            dueState("host of " + frames + ", cloned", x, want);
        }
    }

    /** Page 4 of guest 1 changes twice, in each order of two kinds of change. */
    private static void lastWritten() {
        for (int first = 0; first < 5; first++) {
            for (int second = 0; second < 5; second++) {
                BalloonShare x = full(3);
                int[] want = fullWords();
                changePage4(x, want, first, 0);
                changePage4(x, want, second, 1);
                dueState("change " + first + ", then " + second, x, want);
            }
        }
    }

    private static void changePage4(BalloonShare x, int[] want, int kind, int time) {
        switch (kind) {
            case 0:
                x.write(1, 17 + time, -50);
                want[32 + 17 + time] = -50;
                break;
            case 1:
                x.fill(1, 4, 60 + time, 0);
                Arrays.fill(want, 48, 52, 60 + time);
                break;
            case 2:
                x.copy(0, time, 1, 4);
                System.arraycopy(want, 4 * time, want, 48, 4);
                break;
            case 3:
                x.release(1, 4);
                Arrays.fill(want, 48, 52, 0);
                break;
            default:
                x.cloneGuest(2 * time, 1);
                System.arraycopy(want, 64 * time, want, 32, 32);
                break;
        }
    }

    private static void badGuestInEveryCall() {
        for (int bad : GUESTS_BAD) {
            String what = " of guest " + bad;
            due("write" + what, full(3).write(bad, 1, 9), BAD_GUEST);
            due("fill" + what, full(3).fill(bad, 1, 9, 9), BAD_GUEST);
            due("copy from" + what, full(3).copy(bad, 1, 0, 1), BAD_GUEST);
            due("copy to" + what, full(3).copy(0, 1, bad, 1), BAD_GUEST);
            due("release" + what, full(3).release(bad, 1), BAD_GUEST);
            due("cloneGuest from" + what, full(3).cloneGuest(bad, 1), BAD_GUEST);
            due("cloneGuest to" + what, full(3).cloneGuest(1, bad), BAD_GUEST);
            due("shares" + what, full(3).shares(bad, 5), BAD_GUEST);
            due("contents" + what, full(3).contents(bad), BAD_GUEST);
            due("twins" + what, full(3).twins(bad, 1), BAD_GUEST);
        }
    }

    private static void guestTestedFirst() {
        for (int guest : new int[] {-1, 3, MIN, MAX}) {
            for (int page : PAGES_BAD) {
                due("fill of a bad guest and page", full(3).fill(guest, page, 9, 9), BAD_GUEST);
                due("copy of a bad guest and page", full(3).copy(guest, page, 0, 0), BAD_GUEST);
                due("copy to a bad guest and page", full(3).copy(0, 0, guest, page), BAD_GUEST);
                due("release of a bad guest and page", full(3).release(guest, page), BAD_GUEST);
                due("twins of a bad guest and page", full(3).twins(guest, page), BAD_GUEST);
            }
            for (int at : WORDS_BAD) {
                due("write of a bad guest and word", full(3).write(guest, at, 9), BAD_GUEST);
            }
            for (int shares : SHARES_BAD) {
                due("shares of a bad guest and number", full(3).shares(guest, shares), BAD_GUEST);
            }
        }
    }

    private static void badPageInEveryCall() {
        for (int bad : PAGES_BAD) {
            for (int guest = 0; guest < 3; guest++) {
                String what = " of page " + bad + " of guest " + guest;
                due("fill" + what, full(3).fill(guest, bad, 9, 9), BAD_PAGE);
                due("copy from" + what, full(3).copy(guest, bad, 0, 1), BAD_PAGE);
                due("copy to" + what, full(3).copy(0, 1, guest, bad), BAD_PAGE);
                due("release" + what, full(3).release(guest, bad), BAD_PAGE);
                due("twins" + what, full(3).twins(guest, bad), BAD_PAGE);
            }
        }
    }

    /** Three refused calls of each kind to an object, and then the whole state is looked at. */
    private static void refusedChangesNothing() {
        for (int bad : GUESTS_BAD) {
            for (int guest = 0; guest < 3; guest++) {
                int g = guest;
                unchangedBy("write of guest " + bad, x -> x.write(bad, g, 9));
                unchangedBy("fill of guest " + bad, x -> x.fill(bad, g, 9, 9));
                unchangedBy("copy from guest " + bad, x -> x.copy(bad, 1, g, 2));
                unchangedBy("copy to guest " + bad, x -> x.copy(g, 1, bad, 2));
                unchangedBy("release of guest " + bad, x -> x.release(bad, g));
                unchangedBy("cloneGuest from guest " + bad, x -> x.cloneGuest(bad, g));
                unchangedBy("cloneGuest to guest " + bad, x -> x.cloneGuest(g, bad));
                unchangedBy("shares of guest " + bad, x -> x.shares(bad, 9));
            }
        }
        for (int guest = 0; guest < 3; guest++) {
            int g = guest;
            for (int bad : PAGES_BAD) {
                unchangedBy("fill of page " + bad, x -> x.fill(g, bad, 9, 9));
                unchangedBy("copy from page " + bad, x -> x.copy(g, bad, 1, 2));
                unchangedBy("copy to page " + bad, x -> x.copy(1, 2, g, bad));
                unchangedBy("release of page " + bad, x -> x.release(g, bad));
            }
            for (int bad : WORDS_BAD) {
                unchangedBy("write of word " + bad, x -> x.write(g, bad, 9));
            }
            for (int bad : SHARES_BAD) {
                unchangedBy("shares of " + bad, x -> x.shares(g, bad));
            }
        }
    }

    /** Each of the sixteen ways in which four arguments can be right or wrong. */
    private static void guestsBeforePages() {
        for (int ways = 0; ways < 16; ways++) {
            for (int bad : new int[] {-1, 8, MIN, MAX}) {
                int from = (ways & 1) == 0 ? 0 : bad;
                int to = (ways & 2) == 0 ? 2 : bad;
                int fromPage = (ways & 4) == 0 ? 0 : bad;
                int toPage = (ways & 8) == 0 ? 7 : bad;
                int want = (ways & 3) != 0 ? BAD_GUEST : ways != 0 ? BAD_PAGE : 0;
                String what = "copy(" + from + ", " + fromPage + ", " + to + ", " + toPage + ")";
                BalloonShare x = full(3);
                due(what, x.copy(from, fromPage, to, toPage), want);
                if (want != 0) {
                    dueState(what, x, fullWords());
                }
            }
        }
    }

    private static void queriesChangeNothing() {
        int[] some = {MIN, -1, 0, 1, 2, 3, 7, 8, 31, 32, MAX};
        for (int a : some) {
            unchangedBy("contents(" + a + ")", x -> x.contents(a));
            for (int b : some) {
                unchangedBy("read(" + a + ", " + b + ")", x -> x.read(a, b));
                unchangedBy("sum(" + a + ", " + b + ")", x -> x.sum(a, b));
                unchangedBy("same(" + a + ", " + b + ", 1, 1)", x -> x.same(a, b, 1, 1) ? 1 : 0);
                unchangedBy("same(1, 1, " + a + ", " + b + ")", x -> x.same(1, 1, a, b) ? 1 : 0);
                unchangedBy("twins(" + a + ", " + b + ")", x -> x.twins(a, b));
            }
        }
        // Equal pages: what a query finds out about them must not tie them together.
        BalloonShare y = new BalloonShare(3);
        int[] want = new int[96];
        y.same(0, 0, 2, 7);
        y.contents(0);
        y.twins(0, 0);
        y.sum(0, 0);
        y.read(0, 0);
        y.write(0, 0, 4);
        want[0] = 4;
        dueWords("a write after queries", y, want);
    }

    // ---- Promise 1

    private static void framesBelow() throws ReflectiveOperationException {
        for (int frames : new int[] {2, 1, 0, -1, -3, -16, MIN, MIN + 1}) {
            due("frames of new BalloonShare(" + frames + ")", framesOf(frames), 3);
        }
    }

    private static void framesAbove() throws ReflectiveOperationException {
        for (int frames : new int[] {17, 18, 24, 32, 96, 256, 65536, MAX - 1, MAX}) {
            due("frames of new BalloonShare(" + frames + ")", framesOf(frames), 16);
        }
    }

    private static void framesBetween() throws ReflectiveOperationException {
        for (int frames = 3; frames <= 16; frames++) {
            due("frames of new BalloonShare(" + frames + ")", framesOf(frames), frames);
        }
    }

    /** No call shows the clamped number, so this alone looks inside the object. */
    private static int framesOf(int frames) throws ReflectiveOperationException {
        Field field = BalloonShare.class.getDeclaredField("frames");
        field.setAccessible(true);
        return field.getInt(new BalloonShare(frames));
    }

    private static void framesUnseen() {
        for (int frames : FRAMES) {
            String what = "with " + frames + " frames ";
            BalloonShare x = full(frames);
            int[] want = fullWords();
            due(what + "copy", x.copy(0, 0, 2, 7), 0);
            System.arraycopy(want, 0, want, 92, 4);
            due(what + "same", x.same(0, 0, 2, 7), 1);
            due(what + "twins", x.twins(0, 0), 2);
            due(what + "contents", x.contents(2), 8);
            due(what + "sum", x.sum(0, 0), 10020);
            due(what + "release", x.release(0, 0), 0);
            due(what + "cloneGuest", x.cloneGuest(1, 0), 0);
            System.arraycopy(want, 32, want, 0, 32);
            x.tidy(frames);
            for (int guest = 0; guest < 3; guest++) {
                due(what + "write", x.write(guest, 31, guest), 0);
                want[32 * guest + 31] = guest;
            }
            due(what + "a bad guest", x.write(3, 0, 1), BAD_GUEST);
            due(what + "a bad page", x.fill(0, 8, 1, 1), BAD_PAGE);
            due(what + "a bad word", x.write(0, 32, 1), BAD_WORD);
            due(what + "bad shares", x.shares(0, 101), BAD_SHARES);
            dueState(what, x, want);
        }
    }

    private static void newWords() {
        for (int frames : FRAMES) {
            dueWords("new BalloonShare(" + frames + ")", new BalloonShare(frames), new int[96]);
        }
        // What one object holds is no matter of the next one.
        full(3);
        dueWords("an object made after a full one", new BalloonShare(3), new int[96]);
    }

    private static void newShares() {
        for (int frames : FRAMES) {
            BalloonShare x = new BalloonShare(frames);
            for (int guest = 0; guest < 3; guest++) {
                due("shares of guest " + guest + " of " + frames + " frames", x.shares(guest, 100), 1);
            }
        }
    }

    // ---- Promise 2

    /** The sum tells which word of which page was written, whatever read makes of at. */
    private static void writeEachWord() {
        for (int guest = 0; guest < 3; guest++) {
            for (int at = 0; at <= 31; at++) {
                BalloonShare x = new BalloonShare(3);
                x.write(guest, at, 1);
                for (int i = 0; i < 24; i++) {
                    int want = i == guest * 8 + at / 4 ? at % 4 + 1 : 0;
                    due("sum of page " + i + " after write(" + guest + ", " + at + ", 1)", x.sum(i / 8, i % 8), want);
                }
            }
        }
    }

    private static void writeAnyInt() {
        for (int value : ANY) {
            for (int at : new int[] {0, 31}) {
                BalloonShare x = full(3);
                int[] want = fullWords();
                x.write(2, at, value);
                want[64 + at] = value;
                dueState("write(2, " + at + ", " + value + ")", x, want);
            }
        }
    }

    private static void writeBadGuest() {
        for (int bad : GUESTS_BAD) {
            refused("write(" + bad + ", 0, 9)", BAD_GUEST, x -> x.write(bad, 0, 9));
            refused("write(" + bad + ", 31, 0)", BAD_GUEST, x -> x.write(bad, 31, 0));
            refused("write(" + bad + ", 32, 9)", BAD_GUEST, x -> x.write(bad, 32, 9));
        }
    }

    private static void writeAtTooSmall() {
        for (int guest = 0; guest < 3; guest++) {
            int g = guest;
            for (int at : LOW) {
                refused("write(" + g + ", " + at + ", 9)", BAD_WORD, x -> x.write(g, at, 9));
            }
        }
    }

    private static void writeAtTooLarge() {
        for (int guest = 0; guest < 3; guest++) {
            int g = guest;
            for (int at : WORDS_HIGH) {
                refused("write(" + g + ", " + at + ", 9)", BAD_WORD, x -> x.write(g, at, 9));
            }
        }
    }

    private static void writeAnswersZero() {
        for (int guest = 0; guest < 3; guest++) {
            for (int at = 0; at <= 31; at++) {
                for (int value : new int[] {-3, -1, 0, 1, MIN, MAX}) {
                    due("write(" + guest + ", " + at + ", " + value + ")", full(3).write(guest, at, value), 0);
                }
            }
        }
    }

    // ---- Promise 3

    private static void fillWholePage() {
        for (int i = 0; i < 24; i++) {
            BalloonShare x = full(3);
            int[] want = fullWords();
            x.fill(i / 8, i % 8, 7, 0);
            setPage(want, i, 7, 7, 7, 7);
            dueWords("fill with step 0", x, want);
            x.fill(i / 8, i % 8, 0, 1);
            setPage(want, i, 0, 1, 2, 3);
            dueWords("fill with value 0", x, want);
            x.fill(i / 8, i % 8, -2, -3);
            setPage(want, i, -2, -5, -8, -11);
            dueWords("fill with step -3", x, want);
        }
    }

    private static void fillWraps() {
        int[][] cases = {
                {MAX, 1, MAX, MIN, MIN + 1, MIN + 2},
                {MAX - 1, 1, MAX - 1, MAX, MIN, MIN + 1},
                {MAX - 2, 1, MAX - 2, MAX - 1, MAX, MIN},
                {MAX - 3, 1, MAX - 3, MAX - 2, MAX - 1, MAX},
                {MIN, -1, MIN, MAX, MAX - 1, MAX - 2},
                {MIN + 2, -1, MIN + 2, MIN + 1, MIN, MAX},
                {0, MAX, 0, MAX, -2, MAX - 2},
                {0, MIN, 0, MIN, 0, MIN},
                {MIN, MIN, MIN, 0, MIN, 0},
                {MAX, MAX, MAX, -2, MAX - 2, -4},
                {0, 1 << 30, 0, 1 << 30, MIN, -(1 << 30)},
                {1, 1431655765, 1, 1431655766, -1431655765, 0}};
        for (int[] c : cases) {
            BalloonShare x = new BalloonShare(3);
            x.fill(1, 3, c[0], c[1]);
            for (int w = 0; w < 4; w++) {
                due("word " + w + " of fill(1, 3, " + c[0] + ", " + c[1] + ")", x.read(1, 12 + w), c[2 + w]);
            }
        }
    }

    private static void fillBadGuest() {
        for (int bad : GUESTS_BAD) {
            refused("fill(" + bad + ", 0, 9, 9)", BAD_GUEST, x -> x.fill(bad, 0, 9, 9));
            refused("fill(" + bad + ", 7, 9, 9)", BAD_GUEST, x -> x.fill(bad, 7, 9, 9));
            refused("fill(" + bad + ", 8, 9, 9)", BAD_GUEST, x -> x.fill(bad, 8, 9, 9));
            refused("fill(" + bad + ", -1, 9, 9)", BAD_GUEST, x -> x.fill(bad, -1, 9, 9));
        }
    }

    private static void fillBadPage() {
        for (int bad : PAGES_BAD) {
            refused("fill(0, " + bad + ", 9, 9)", BAD_PAGE, x -> x.fill(0, bad, 9, 9));
            refused("fill(1, " + bad + ", 9, 9)", BAD_PAGE, x -> x.fill(1, bad, 9, 9));
            refused("fill(2, " + bad + ", 9, 9)", BAD_PAGE, x -> x.fill(2, bad, 9, 9));
        }
    }

    private static void fillAnswersZero() {
        for (int i = 0; i < 24; i++) {
            for (int value : ANY) {
                due("fill", full(3).fill(i / 8, i % 8, value, 1), 0);
                due("fill", full(3).fill(i / 8, i % 8, 1, value), 0);
            }
        }
    }

    // ---- Promise 4

    private static void copyEachPair() {
        for (int i = 0; i < 24; i++) {
            for (int k = 0; k < 24; k++) {
                BalloonShare x = full(3);
                int[] want = fullWords();
                x.copy(i / 8, i % 8, k / 8, k % 8);
                System.arraycopy(want, 4 * i, want, 4 * k, 4);
                dueState("copy of page " + i + " to page " + k, x, want);
            }
        }
    }

    private static void copyIndependent() {
        int[][] pairs = {{0, 1}, {0, 8}, {0, 23}, {23, 0}, {7, 8}, {8, 7}, {10, 10}};
        for (int[] pair : pairs) {
            for (int side = 0; side < 2; side++) {
                int changed = pair[side];
                copyThen("write", pair, x -> x.write(changed / 8, changed % 8 * 4 + 2, -9), changed, 2);
                copyThen("fill", pair, x -> x.fill(changed / 8, changed % 8, -9, 0), changed, -1);
            }
        }
        // A copy of a copy is independent of both.
        BalloonShare x = full(3);
        int[] want = fullWords();
        x.copy(0, 0, 1, 0);
        x.copy(1, 0, 2, 0);
        x.release(1, 0);
        System.arraycopy(want, 0, want, 64, 4);
        Arrays.fill(want, 32, 36, 0);
        dueState("copy of a copy", x, want);
    }

    /** Word -1 stands for all four words of the changed page. */
    private static void copyThen(String what, int[] pair, Call change, int changed, int word) {
        BalloonShare x = full(3);
        int[] want = fullWords();
        x.copy(pair[0] / 8, pair[0] % 8, pair[1] / 8, pair[1] % 8);
        System.arraycopy(want, 4 * pair[0], want, 4 * pair[1], 4);
        change.on(x);
        if (word < 0) {
            setPage(want, changed, -9, -9, -9, -9);
        } else {
            want[4 * changed + word] = -9;
        }
        dueState("copy " + Arrays.toString(pair) + ", then " + what + " of page " + changed, x, want);
    }

    private static void copyBadGuest() {
        for (int bad : GUESTS_BAD) {
            refused("copy(" + bad + ", 0, 1, 1)", BAD_GUEST, x -> x.copy(bad, 0, 1, 1));
            refused("copy(0, 0, " + bad + ", 1)", BAD_GUEST, x -> x.copy(0, 0, bad, 1));
            refused("copy(" + bad + ", 0, " + bad + ", 0)", BAD_GUEST, x -> x.copy(bad, 0, bad, 0));
        }
    }

    private static void copyBadPage() {
        for (int bad : PAGES_BAD) {
            refused("copy(0, " + bad + ", 1, 1)", BAD_PAGE, x -> x.copy(0, bad, 1, 1));
            refused("copy(0, 0, 1, " + bad + ")", BAD_PAGE, x -> x.copy(0, 0, 1, bad));
            refused("copy(2, " + bad + ", 2, " + bad + ")", BAD_PAGE, x -> x.copy(2, bad, 2, bad));
        }
    }

    private static void copyAnswersZero() {
        for (int i = 0; i < 24; i++) {
            for (int k = 0; k < 24; k++) {
                BalloonShare x = full(3);
                due("copy of page " + i + " to page " + k, x.copy(i / 8, i % 8, k / 8, k % 8), 0);
            }
        }
    }

    // ---- Promise 5

    private static void releaseFullAndEmpty() {
        for (int i = 0; i < 24; i++) {
            BalloonShare x = full(3);
            int[] want = fullWords();
            x.release(i / 8, i % 8);
            setPage(want, i, 0, 0, 0, 0);
            dueWords("release of page " + i, x, want);
            x.release(i / 8, i % 8);
            dueState("release of page " + i + " once more", x, want);
            BalloonShare y = new BalloonShare(3);
            y.release(i / 8, i % 8);
            dueWords("release of page " + i + " of a new object", y, new int[96]);
        }
    }

    private static void releaseBadGuest() {
        for (int bad : GUESTS_BAD) {
            refused("release(" + bad + ", 0)", BAD_GUEST, x -> x.release(bad, 0));
            refused("release(" + bad + ", 7)", BAD_GUEST, x -> x.release(bad, 7));
            refused("release(" + bad + ", 8)", BAD_GUEST, x -> x.release(bad, 8));
            refused("release(" + bad + ", -1)", BAD_GUEST, x -> x.release(bad, -1));
        }
    }

    private static void releaseBadPage() {
        for (int bad : PAGES_BAD) {
            refused("release(0, " + bad + ")", BAD_PAGE, x -> x.release(0, bad));
            refused("release(1, " + bad + ")", BAD_PAGE, x -> x.release(1, bad));
            refused("release(2, " + bad + ")", BAD_PAGE, x -> x.release(2, bad));
        }
    }

    private static void releaseAnswersZero() {
        for (int i = 0; i < 24; i++) {
            BalloonShare x = full(3);
            due("release of a full page", x.release(i / 8, i % 8), 0);
            due("release of an empty page", x.release(i / 8, i % 8), 0);
        }
    }

    // ---- Promise 6

    private static void cloneAllPages() {
        for (int from = 0; from < 3; from++) {
            for (int to = 0; to < 3; to++) {
                BalloonShare x = full(3);
                int[] want = fullWords();
                x.cloneGuest(from, to);
                System.arraycopy(want, 32 * from, want, 32 * to, 32);
                dueWords("cloneGuest(" + from + ", " + to + ")", x, want);
                // As they are now: neither guest sees what the other writes later.
                x.write(from, 0, -1);
                want[32 * from] = -1;
                x.write(to, 31, -2);
                want[32 * to + 31] = -2;
                dueState("writes after cloneGuest(" + from + ", " + to + ")", x, want);
            }
        }
        BalloonShare y = full(3);
        int[] want = fullWords();
        for (int page = 0; page < 8; page++) {
            y.release(2, page);
        }
        y.cloneGuest(2, 0);
        Arrays.fill(want, 0, 32, 0);
        Arrays.fill(want, 64, 96, 0);
        dueState("cloneGuest of an empty guest", y, want);
    }

    private static void cloneToItself() {
        for (int guest = 0; guest < 3; guest++) {
            int g = guest;
            unchangedBy("cloneGuest(" + g + ", " + g + ")", x -> x.cloneGuest(g, g));
        }
    }

    private static void cloneBadGuest() {
        for (int bad : GUESTS_BAD) {
            for (int guest = 0; guest < 3; guest++) {
                int g = guest;
                refused("cloneGuest(" + bad + ", " + g + ")", BAD_GUEST, x -> x.cloneGuest(bad, g));
                refused("cloneGuest(" + g + ", " + bad + ")", BAD_GUEST, x -> x.cloneGuest(g, bad));
            }
            refused("cloneGuest(" + bad + ", " + bad + ")", BAD_GUEST, x -> x.cloneGuest(bad, bad));
        }
    }

    private static void cloneAnswersZero() {
        for (int from = 0; from < 3; from++) {
            for (int to = 0; to < 3; to++) {
                due("cloneGuest(" + from + ", " + to + ")", full(3).cloneGuest(from, to), 0);
            }
        }
    }

    // ---- Promise 7

    private static void sharesUnseen() {
        for (int guest = 0; guest < 3; guest++) {
            for (int shares : new int[] {1, 2, 99, 100}) {
                BalloonShare x = full(3);
                String what = "after shares(" + guest + ", " + shares + ") ";
                x.shares(guest, shares);
                dueWords(what, x, fullWords());
                for (int i = 0; i < 24; i++) {
                    due(what + "twins", x.twins(i / 8, i % 8), 1);
                    due(what + "release", x.release(i / 8, i % 8), 0);
                    due(what + "sum", x.sum(i / 8, i % 8), 0);
                }
                due(what + "contents", x.contents(guest), 1);
                due(what + "same", x.same(guest, 0, 0, 7), 1);
                BalloonShare empty = new BalloonShare(3);
                empty.shares(guest, shares);
                dueWords("a new object " + what, empty, new int[96]);
            }
        }
    }

    private static void sharesBadGuest() {
        for (int bad : GUESTS_BAD) {
            refused("shares(" + bad + ", 1)", BAD_GUEST, x -> x.shares(bad, 1));
            refused("shares(" + bad + ", 100)", BAD_GUEST, x -> x.shares(bad, 100));
            refused("shares(" + bad + ", 0)", BAD_GUEST, x -> x.shares(bad, 0));
            refused("shares(" + bad + ", 101)", BAD_GUEST, x -> x.shares(bad, 101));
        }
    }

    private static void sharesTooSmall() {
        for (int guest = 0; guest < 3; guest++) {
            int g = guest;
            for (int bad : SHARES_LOW) {
                refused("shares(" + g + ", " + bad + ")", BAD_SHARES, x -> x.shares(g, bad));
            }
        }
    }

    private static void sharesTooLarge() {
        for (int guest = 0; guest < 3; guest++) {
            int g = guest;
            for (int bad : SHARES_HIGH) {
                refused("shares(" + g + ", " + bad + ")", BAD_SHARES, x -> x.shares(g, bad));
            }
        }
    }

    /** Each number from 1 to 100 is taken and answered by the next call; the other guests keep theirs. */
    private static void sharesOldNumber() {
        for (int guest = 0; guest < 3; guest++) {
            BalloonShare x = new BalloonShare(3);
            int old = 1;
            for (int shares = 1; shares <= 100; shares++) {
                due("shares(" + guest + ", " + shares + ")", x.shares(guest, shares), old);
                old = shares;
            }
            due("the same number again", x.shares(guest, 100), 100);
            due("from greatest to least", x.shares(guest, 1), 100);
            due("from least to greatest", x.shares(guest, 100), 1);
            due("shares of the next guest", x.shares((guest + 1) % 3, 5), 1);
            due("shares of the guest after it", x.shares((guest + 2) % 3, 6), 1);
            due("shares of the first one again", x.shares(guest, 7), 100);
        }
    }

    // ---- Promise 8

    private static void tidyUnseen() {
        // Equal pages, such as a tidy host might put together, and empty ones.
        for (int n : ANY) {
            BalloonShare x = new BalloonShare(3);
            int[] want = new int[96];
            x.tidy(n);
            for (int i = 0; i < 24; i += 3) {
                x.fill(i / 8, i % 8, 6, 0);
                setPage(want, i, 6, 6, 6, 6);
            }
            x.tidy(n);
            due("twins after tidy", x.twins(0, 0), 8);
            due("contents after tidy", x.contents(1), 2);
            dueWords("tidy(" + n + ")", x, want);
            x.write(0, 0, 7);
            want[0] = 7;
            x.tidy(n);
            x.write(0, 4, 8);
            want[4] = 8;
            dueWords("writes between tidy(" + n + ")", x, want);
            for (int guest = 0; guest < 3; guest++) {
                x.shares(guest, 10 + guest);
                x.tidy(n);
                due("shares after tidy(" + n + ")", x.shares(guest, 1), 10 + guest);
            }
        }
    }

    private static void tidyAnyInt() {
        for (int n : ANY) {
            unchangedBy("tidy(" + n + ")", x -> tidied(x, n));
        }
        for (int n = -600; n <= 600; n++) {
            int k = n;
            unchangedBy("tidy(" + n + ")", x -> tidied(x, k));
        }
    }

    // ---- Promise 9

    private static void readEachWord() {
        for (int guest = 0; guest < 3; guest++) {
            for (int page = 0; page < 8; page++) {
                BalloonShare x = new BalloonShare(3);
                x.fill(guest, page, 1, 1);
                for (int i = 0; i < 96; i++) {
                    int want = i / 4 == guest * 8 + page ? i % 4 + 1 : 0;
                    due("read(" + i / 32 + ", " + i % 32 + ")", x.read(i / 32, i % 32), want);
                }
            }
        }
    }

    private static void readBadGuest() {
        for (int bad : GUESTS_BAD) {
            for (int at : new int[] {0, 1, 30, 31, 32, -1, MIN, MAX}) {
                due("read(" + bad + ", " + at + ")", full(3).read(bad, at), 0);
            }
        }
    }

    private static void readAtTooSmall() {
        for (int guest = 0; guest < 3; guest++) {
            for (int at : LOW) {
                due("read(" + guest + ", " + at + ")", full(3).read(guest, at), 0);
            }
        }
    }

    private static void readAtTooLarge() {
        for (int guest = 0; guest < 3; guest++) {
            for (int at : WORDS_HIGH) {
                due("read(" + guest + ", " + at + ")", full(3).read(guest, at), 0);
            }
        }
    }

    // ---- Promise 10

    private static void sumEachWord() {
        for (int i = 0; i < 24; i++) {
            for (int w = 0; w < 4; w++) {
                BalloonShare x = full(3);
                x.release(i / 8, i % 8);
                due("sum of an empty page", x.sum(i / 8, i % 8), 0);
                x.write(i / 8, i % 8 * 4 + w, 100);
                due("sum of word " + w + " alone", x.sum(i / 8, i % 8), 100 * (w + 1));
                x.write(i / 8, i % 8 * 4 + w, -100);
                due("sum of word " + w + " alone, below 0", x.sum(i / 8, i % 8), -100 * (w + 1));
            }
        }
    }

    private static void sumWraps() {
        int[][] cases = {
                {MAX, 0, 0, 0, MAX},
                {MAX, 1, 0, 0, MIN + 1},
                {0, MAX, 0, 0, -2},
                {0, 0, MAX, 0, MAX - 2},
                {0, 0, 0, MAX, -4},
                {MIN, 0, 0, 0, MIN},
                {0, MIN, 0, 0, 0},
                {0, 0, MIN, 0, MIN},
                {0, 0, 0, MIN, 0},
                {MAX, MAX, MAX, MAX, -10},
                {MIN, MIN, MIN, MIN, 0},
                {MIN, -1, 0, 0, MAX - 1},
                {0, 0, 0, 1 << 30, 0},
                {-1, 0, 0, 1 << 29, MAX}};
        for (int[] c : cases) {
            BalloonShare x = new BalloonShare(3);
            for (int w = 0; w < 4; w++) {
                x.write(2, 28 + w, c[w]);
            }
            due("sum of " + Arrays.toString(Arrays.copyOf(c, 4)), x.sum(2, 7), c[4]);
        }
    }

    private static void sumBadGuest() {
        for (int bad : GUESTS_BAD) {
            for (int page : new int[] {0, 7, 8, -1}) {
                due("sum(" + bad + ", " + page + ")", full(3).sum(bad, page), 0);
            }
        }
    }

    private static void sumBadPage() {
        for (int bad : PAGES_BAD) {
            for (int guest = 0; guest < 3; guest++) {
                due("sum(" + guest + ", " + bad + ")", full(3).sum(guest, bad), 0);
            }
        }
    }

    // ---- Promise 11

    private static void sameButOneWord() {
        for (int i = 0; i < 24; i++) {
            for (int k = 0; k < 24; k++) {
                BalloonShare x = full(3);
                due("pages " + i + " and " + k, x.same(i / 8, i % 8, k / 8, k % 8), i == k ? 1 : 0);
                x.copy(i / 8, i % 8, k / 8, k % 8);
                due("copied pages " + i + " and " + k, x.same(i / 8, i % 8, k / 8, k % 8), 1);
                for (int w = 0; w < 4 && i != k; w++) {
                    int old = x.read(k / 8, k % 8 * 4 + w);
                    x.write(k / 8, k % 8 * 4 + w, old ^ MIN);
                    due("pages but for word " + w, x.same(i / 8, i % 8, k / 8, k % 8), 0);
                    due("pages but for word " + w, x.same(k / 8, k % 8, i / 8, i % 8), 0);
                    x.write(k / 8, k % 8 * 4 + w, old);
                    due("pages with word " + w + " back", x.same(i / 8, i % 8, k / 8, k % 8), 1);
                }
            }
        }
    }

    /** All pages are 0, so a program that puts a bad number right would answer true. */
    private static void sameBadGuest() {
        for (int bad : GUESTS_BAD) {
            due("same(" + bad + ", 0, 0, 0)", new BalloonShare(3).same(bad, 0, 0, 0), 0);
            due("same(0, 0, " + bad + ", 0)", new BalloonShare(3).same(0, 0, bad, 0), 0);
            due("same(2, 7, " + bad + ", 7)", new BalloonShare(3).same(2, 7, bad, 7), 0);
            due("same(" + bad + ", 0, " + bad + ", 0)", new BalloonShare(3).same(bad, 0, bad, 0), 0);
            due("same(" + bad + ", 8, " + bad + ", 8)", new BalloonShare(3).same(bad, 8, bad, 8), 0);
        }
    }

    private static void sameBadPage() {
        for (int bad : PAGES_BAD) {
            due("same(0, " + bad + ", 0, 0)", new BalloonShare(3).same(0, bad, 0, 0), 0);
            due("same(0, 0, 0, " + bad + ")", new BalloonShare(3).same(0, 0, 0, bad), 0);
            due("same(2, 7, 1, " + bad + ")", new BalloonShare(3).same(2, 7, 1, bad), 0);
            due("same(1, " + bad + ", 1, " + bad + ")", new BalloonShare(3).same(1, bad, 1, bad), 0);
        }
    }

    // ---- Promise 12

    private static void contentsOneToEight() {
        for (int guest = 0; guest < 3; guest++) {
            for (int different = 1; different <= 8; different++) {
                BalloonShare x = full(3);
                for (int page = 0; page < 8; page++) {
                    x.fill(guest, page, page % different, 0);
                }
                due("contents, one page after the other", x.contents(guest), different);
                due("contents of another guest", x.contents((guest + 1) % 3), 8);
                for (int page = 0; page < 8; page++) {
                    x.fill(guest, page, page < different ? page : different - 1, 0);
                }
                due("contents, the last ones equal", x.contents(guest), different);
                for (int page = 0; page < 8; page++) {
                    x.fill(guest, 7 - page, page < different ? page : different - 1, 0);
                }
                due("contents, the first ones equal", x.contents(guest), different);
            }
        }
    }

    private static void contentsEachWord() {
        for (int w = 0; w < 4; w++) {
            for (int page = 0; page < 8; page++) {
                BalloonShare x = new BalloonShare(3);
                x.write(0, page * 4 + w, MIN);
                due("contents, word " + w + " of page " + page + " differs", x.contents(0), 2);
            }
        }
    }

    private static void contentsBadGuest() {
        for (int bad : GUESTS_BAD) {
            refused("contents(" + bad + ")", BAD_GUEST, x -> x.contents(bad));
        }
    }

    // ---- Promise 13

    private static void twinsOneTo24() {
        for (int equal = 1; equal <= 24; equal++) {
            BalloonShare low = full(3);
            BalloonShare high = full(3);
            for (int i = 0; i < equal; i++) {
                low.fill(i / 8, i % 8, 5, 1);
                high.fill((23 - i) / 8, (23 - i) % 8, 5, 1);
            }
            for (int i = 0; i < 24; i++) {
                due("twins, first " + equal + " equal", low.twins(i / 8, i % 8), i < equal ? equal : 1);
                due("twins, last " + equal + " equal", high.twins(i / 8, i % 8), 23 - i < equal ? equal : 1);
            }
        }
        for (int w = 0; w < 4; w++) {
            for (int i = 0; i < 24; i++) {
                BalloonShare x = new BalloonShare(3);
                x.write(i / 8, i % 8 * 4 + w, MIN);
                due("twins, but for word " + w + " of page " + i, x.twins(0, i == 0 ? 1 : 0), 23);
            }
        }
    }

    private static void twinsItself() {
        BalloonShare x = full(3);
        for (int i = 0; i < 24; i++) {
            due("twins of a page that has no other", x.twins(i / 8, i % 8), 1);
        }
    }

    private static void twinsBadGuest() {
        for (int bad : GUESTS_BAD) {
            for (int page : new int[] {0, 7, 8, -1}) {
                refused("twins(" + bad + ", " + page + ")", BAD_GUEST, x -> x.twins(bad, page));
            }
        }
    }

    private static void twinsBadPage() {
        for (int bad : PAGES_BAD) {
            for (int guest = 0; guest < 3; guest++) {
                int g = guest;
                refused("twins(" + g + ", " + bad + ")", BAD_PAGE, x -> x.twins(g, bad));
            }
        }
    }

    // ---- Helpers

    private static void test(String heading, String words, Test body) {
        sentence = heading + ": " + words;
        wrongHere = 0;
        tests++;
        try {
            body.run();
        } catch (ReflectiveOperationException | RuntimeException thrown) {
            fault("threw " + thrown);
        }
        if (wrongHere != 0) {
            wrong++;
            System.out.println("DOES NOT HOLD (" + wrongHere + " times): " + sentence);
        }
    }

    private static void fault(String text) {
        wrongHere++;
        if (wrongHere <= 5) {
            System.out.println("[" + sentence + "] " + text);
        }
    }

    private static void due(String what, long got, long want) {
        if (got != want) {
            fault(what + " answered " + got + ", due is " + want);
        }
    }

    private static void due(String what, boolean got, int want) {
        due(what, got ? 1 : 0, want);
    }

    /** An object whose 96 words all differ, none is 0, and whose guests have different shares (27 calls). */
    private static BalloonShare full(int frames) {
        BalloonShare x = new BalloonShare(frames);
        int[] words = fullWords();
        for (int i = 0; i < 24; i++) {
            x.fill(i / 8, i % 8, words[4 * i], 1);
        }
        for (int guest = 0; guest < 3; guest++) {
            x.shares(guest, FULL_SHARES[guest]);
        }
        return x;
    }

    private static int[] fullWords() {
        int[] all = new int[96];
        for (int i = 0; i < 96; i++) {
            all[i] = 1000 + 10 * (i / 4) + i % 4;
        }
        return all;
    }

    private static void setPage(int[] words, int page, int... four) {
        System.arraycopy(four, 0, words, 4 * page, 4);
    }

    /** By 96 calls. */
    private static void dueWords(String what, BalloonShare x, int[] want) {
        for (int i = 0; i < 96; i++) {
            due(what + ": word " + i % 32 + " of guest " + i / 32, x.read(i / 32, i % 32), want[i]);
        }
    }

    /** All words and the shares of a full host, by 99 calls. */
    private static void dueState(String what, BalloonShare x, int[] want) {
        dueWords(what, x, want);
        for (int guest = 0; guest < 3; guest++) {
            due(what + ": shares of guest " + guest, x.shares(guest, 1), FULL_SHARES[guest]);
        }
    }

    private static void refused(String what, long answer, Call call) {
        BalloonShare x = full(3);
        due(what, call.on(x), answer);
        dueState(what, x, fullWords());
    }

    private static void unchangedBy(String what, Call call) {
        BalloonShare x = full(3);
        for (int time = 0; time < 3; time++) {
            call.on(x);
        }
        dueState(what, x, fullWords());
    }

    private static long tidied(BalloonShare x, int n) {
        x.tidy(n);
        return 0;
    }

    private static int[] joined(int[] first, int[] second) {
        int[] all = Arrays.copyOf(first, first.length + second.length);
        System.arraycopy(second, 0, all, first.length, second.length);
        return all;
    }
}
