import java.util.Arrays;

/** One method for each promise of the document: ordinary inputs, the named edges, wrong inputs. */
public final class PromisesTest {
    private static final int MIN = Integer.MIN_VALUE;
    private static final int MAX = Integer.MAX_VALUE;
    private static final int[] BAD_GUESTS = {-1, 3, 4, MIN, MAX};
    private static final int[] BAD_PAGES = {-1, 8, 9, 31, MIN, MAX};
    private static final int[] BAD_WORDS = {-1, -4, 32, 33, MIN, MAX};
    private static final int[] BAD_SHARES = {0, -1, 101, MIN, MAX};

    private static int wrong = 0;

    public static void main(String[] args) {
        constants();
        promise1NewObject();
        promise2Write();
        promise3Fill();
        promise4Copy();
        promise5Release();
        promise6CloneGuest();
        promise7Shares();
        promise8Tidy();
        promise9Read();
        promise10Sum();
        promise11Same();
        promise12Contents();
        promise13Twins();
        queriesChangeNothing();
        System.out.println(wrong == 0 ? "all answers are as due" : wrong + " answers are not as due");
        if (wrong != 0) {
            System.exit(1);
        }
    }

    private static void due(String what, long got, long want) {
        if (got != want) {
            wrong++;
            System.out.println(what + " answered " + got + ", due is " + want);
        }
    }

    private static void due(String what, boolean got, boolean want) {
        due(what, got ? 1 : 0, want ? 1 : 0);
    }

    /** All 96 words, by 96 calls: an object is promised 512 calls, so at most five of these for one. */
    private static int[] words(BalloonShare x) {
        int[] all = new int[96];
        for (int i = 0; i < 96; i++) {
            all[i] = x.read(i / 32, i % 32);
        }
        return all;
    }

    private static void dueWords(String what, BalloonShare x, int[] want) {
        int[] got = words(x);
        for (int i = 0; i < 96; i++) {
            due(what + ": word " + i % 32 + " of guest " + i / 32, got[i], want[i]);
        }
    }

    private static void duePage(String what, BalloonShare x, int guest, int page, int... want) {
        for (int w = 0; w < 4; w++) {
            due(what + ": word " + w + " of page " + page + " of guest " + guest,
                    x.read(guest, page * 4 + w), want[w]);
        }
    }

    /** An object whose 96 words all differ and none is 0 (24 calls). */
    private static BalloonShare filled() {
        BalloonShare x = new BalloonShare(3);
        for (int i = 0; i < 24; i++) {
            x.fill(i / 8, i % 8, 1000 + 10 * i, 1);
        }
        return x;
    }

    private static int[] filledWords() {
        int[] all = new int[96];
        for (int i = 0; i < 96; i++) {
            all[i] = 1000 + 10 * (i / 4) + i % 4;
        }
        return all;
    }

    private static void constants() {
        due("BAD_GUEST", BalloonShare.BAD_GUEST, -1);
        due("BAD_PAGE", BalloonShare.BAD_PAGE, -2);
        due("BAD_WORD", BalloonShare.BAD_WORD, -3);
        due("BAD_SHARES", BalloonShare.BAD_SHARES, -4);
    }

    private static void promise1NewObject() {
        for (int frames : new int[] {MIN, -1, 0, 1, 2, 3, 4, 15, 16, 17, 24, MAX}) {
            String what = "new BalloonShare(" + frames + ")";
            BalloonShare x = new BalloonShare(frames);
            dueWords(what, x, new int[96]);
            for (int guest = 0; guest < 3; guest++) {
                due(what + ".contents", x.contents(guest), 1);
                due(what + ".shares", x.shares(guest, 7), 1);
            }
            due(what + ".twins", x.twins(1, 7), 24);
            // All 24 pages differ: more than any host has frames.
            for (int i = 0; i < 24; i++) {
                due(what + ".fill", x.fill(i / 8, i % 8, 1000 + 10 * i, 1), 0);
            }
            dueWords(what + ", all filled", x, filledWords());
        }
        BalloonShare a = new BalloonShare(3);
        BalloonShare b = new BalloonShare(3);
        a.fill(0, 0, 5, 5);
        a.shares(0, 50);
        dueWords("another object", b, new int[96]);
        due("another object's shares", b.shares(0, 2), 1);
    }

    private static void promise2Write() {
        int[] values = {1, -1, MIN, MAX, 0};
        for (int guest = 0; guest < 3; guest++) {
            for (int at = 0; at < 32; at++) {
                BalloonShare x = filled();
                int[] want = filledWords();
                int value = values[at % values.length];
                due("write", x.write(guest, at, value), 0);
                want[guest * 32 + at] = value;
                dueWords("write(" + guest + ", " + at + ", " + value + ")", x, want);
            }
        }
        BalloonShare x = filled();
        for (int guest : BAD_GUESTS) {
            due("write, guest " + guest, x.write(guest, 0, 9), -1);
            due("write, guest " + guest + " and word 32", x.write(guest, 32, 9), -1);
        }
        for (int at : BAD_WORDS) {
            due("write, at " + at, x.write(0, at, 9), -3);
            due("write, at " + at, x.write(1, at, 9), -3);
            due("write, at " + at, x.write(2, at, 9), -3);
        }
        dueWords("refused writes", x, filledWords());
    }

    private static void promise3Fill() {
        BalloonShare x = filled();
        int[] want = filledWords();
        due("fill", x.fill(1, 7, 5, -3), 0);
        int[] page = {5, 2, -1, -4};
        System.arraycopy(page, 0, want, 60, 4);
        due("fill", x.fill(2, 0, 8, 0), 0);
        Arrays.fill(want, 64, 68, 8);
        dueWords("fill", x, want);

        x.fill(0, 0, MAX, 1);
        duePage("fill, value wraps", x, 0, 0, MAX, MIN, MIN + 1, MIN + 2);
        x.fill(0, 1, 0, MAX);
        duePage("fill, step wraps", x, 0, 1, 0, MAX, -2, MAX - 2);
        x.fill(0, 2, MIN, MIN);
        duePage("fill, both wrap", x, 0, 2, MIN, 0, MIN, 0);
        x.fill(0, 3, MIN, -1);
        duePage("fill, wraps below", x, 0, 3, MIN, MAX, MAX - 1, MAX - 2);

        BalloonShare y = filled();
        for (int guest : BAD_GUESTS) {
            due("fill, guest " + guest, y.fill(guest, 0, 9, 9), -1);
            due("fill, guest " + guest + " and page 8", y.fill(guest, 8, 9, 9), -1);
        }
        for (int bad : BAD_PAGES) {
            due("fill, page " + bad, y.fill(0, bad, 9, 9), -2);
            due("fill, page " + bad, y.fill(2, bad, 9, 9), -2);
        }
        dueWords("refused fills", y, filledWords());
    }

    private static void promise4Copy() {
        BalloonShare x = filled();
        int[] want = filledWords();
        due("copy", x.copy(0, 7, 2, 3), 0);
        System.arraycopy(want, 28, want, 76, 4);
        due("copy in one guest", x.copy(1, 2, 1, 3), 0);
        System.arraycopy(want, 40, want, 44, 4);
        due("copy to itself", x.copy(1, 5, 1, 5), 0);
        dueWords("copy", x, want);
        x.write(0, 29, -5);
        want[29] = -5;
        x.write(2, 14, -6);
        want[78] = -6;
        x.release(1, 2);
        Arrays.fill(want, 40, 44, 0);
        x.fill(1, 5, 4, 4);
        int[] page = {4, 8, 12, 16};
        System.arraycopy(page, 0, want, 52, 4);
        dueWords("writes after copy", x, want);

        BalloonShare y = filled();
        for (int guest : BAD_GUESTS) {
            due("copy, from " + guest, y.copy(guest, 0, 1, 1), -1);
            due("copy, to " + guest, y.copy(0, 0, guest, 1), -1);
            due("copy, bad to after bad fromPage", y.copy(0, 8, guest, 1), -1);
            due("copy, bad from with bad toPage", y.copy(guest, 0, 1, -1), -1);
            due("copy, all bad", y.copy(guest, -1, guest, 8), -1);
        }
        for (int bad : BAD_PAGES) {
            due("copy, fromPage " + bad, y.copy(0, bad, 1, 1), -2);
            due("copy, toPage " + bad, y.copy(0, 0, 1, bad), -2);
            due("copy, both pages " + bad, y.copy(0, bad, 1, bad), -2);
        }
        dueWords("refused copies", y, filledWords());
    }

    private static void promise5Release() {
        for (int i = 0; i < 24; i++) {
            BalloonShare x = filled();
            int[] want = filledWords();
            due("release", x.release(i / 8, i % 8), 0);
            Arrays.fill(want, 4 * i, 4 * i + 4, 0);
            dueWords("release(" + i / 8 + ", " + i % 8 + ")", x, want);
            due("release again", x.release(i / 8, i % 8), 0);
            x.write(i / 8, i % 8 * 4 + 1, 3);
            want[4 * i + 1] = 3;
            dueWords("write after release", x, want);
        }
        BalloonShare y = filled();
        for (int guest : BAD_GUESTS) {
            due("release, guest " + guest, y.release(guest, 0), -1);
            due("release, guest " + guest + " and page -1", y.release(guest, -1), -1);
        }
        for (int bad : BAD_PAGES) {
            due("release, page " + bad, y.release(0, bad), -2);
            due("release, page " + bad, y.release(2, bad), -2);
        }
        dueWords("refused releases", y, filledWords());
    }

    private static void promise6CloneGuest() {
        for (int from = 0; from < 3; from++) {
            for (int to = 0; to < 3; to++) {
                BalloonShare x = filled();
                int[] want = filledWords();
                String what = "cloneGuest(" + from + ", " + to + ")";
                x.shares(from, 40);
                due(what, x.cloneGuest(from, to), 0);
                System.arraycopy(want, from * 32, want, to * 32, 32);
                dueWords(what, x, want);
                due(what + ", then shares", x.shares(to, 5), from == to ? 40 : 1);
                x.write(from, 9, -7);
                want[from * 32 + 9] = -7;
                x.fill(to, 3, -9, 0);
                Arrays.fill(want, to * 32 + 12, to * 32 + 16, -9);
                dueWords("writes after " + what, x, want);
            }
        }
        BalloonShare y = filled();
        for (int guest : BAD_GUESTS) {
            due("cloneGuest, from " + guest, y.cloneGuest(guest, 1), -1);
            due("cloneGuest, to " + guest, y.cloneGuest(1, guest), -1);
            due("cloneGuest, both " + guest, y.cloneGuest(guest, guest), -1);
        }
        dueWords("refused clones", y, filledWords());
    }

    private static void promise7Shares() {
        BalloonShare x = filled();
        due("shares, first", x.shares(0, 100), 1);
        due("shares, greatest", x.shares(0, 1), 100);
        due("shares, least", x.shares(0, 50), 1);
        due("shares of another guest", x.shares(1, 60), 1);
        due("shares of the third guest", x.shares(2, 70), 1);
        for (int guest : BAD_GUESTS) {
            due("shares, guest " + guest, x.shares(guest, 5), -1);
            due("shares, guest " + guest + " and shares 0", x.shares(guest, 0), -1);
        }
        for (int bad : BAD_SHARES) {
            due("shares " + bad, x.shares(0, bad), -4);
            due("shares " + bad, x.shares(2, bad), -4);
        }
        due("shares after refusals", x.shares(0, 50), 50);
        due("shares set to the same", x.shares(0, 51), 50);
        due("shares of another guest", x.shares(1, 61), 60);
        due("shares of the third guest", x.shares(2, 71), 70);
        dueWords("shares", x, filledWords());
    }

    private static void promise8Tidy() {
        BalloonShare x = filled();
        x.shares(1, 33);
        for (int n : new int[] {0, 1, -1, 3, 16, 24, 1000, MIN, MAX}) {
            x.tidy(n);
        }
        dueWords("tidy", x, filledWords());
        due("shares after tidy", x.shares(1, 2), 33);

        // Equal pages, which a host might share while it tidies, must stay independent.
        BalloonShare y = new BalloonShare(3);
        y.fill(0, 0, 6, 0);
        y.fill(1, 1, 6, 0);
        y.tidy(MAX);
        y.write(0, 2, 7);
        duePage("write after tidy", y, 0, 0, 6, 6, 7, 6);
        duePage("write to a twin after tidy", y, 1, 1, 6, 6, 6, 6);
        due("twins of a page of 0 after tidy", y.twins(2, 2), 22);
    }

    private static void promise9Read() {
        BalloonShare x = filled();
        dueWords("read", x, filledWords());
        for (int guest : BAD_GUESTS) {
            due("read, guest " + guest, x.read(guest, 0), 0);
            due("read, guest " + guest + " and word 32", x.read(guest, 32), 0);
        }
        for (int at : BAD_WORDS) {
            for (int guest = 0; guest < 3; guest++) {
                due("read(" + guest + ", " + at + ")", x.read(guest, at), 0);
            }
        }
        x.write(2, 31, MIN);
        due("read the least int", x.read(2, 31), MIN);
    }

    private static void promise10Sum() {
        BalloonShare x = filled();
        for (int i = 0; i < 24; i++) {
            int first = 1000 + 10 * i;
            due("sum", x.sum(i / 8, i % 8), 10 * first + 2 + 6 + 12);
        }
        for (int w = 0; w < 4; w++) {
            x.release(1, 6);
            x.write(1, 24 + w, 100);
            due("sum, word " + w + " alone", x.sum(1, 6), 100 * (w + 1));
        }
        x.fill(0, 0, MAX, 0);
        due("sum wraps", x.sum(0, 0), -10);
        x.fill(0, 0, MIN, 1);
        due("sum wraps below", x.sum(0, 0), 20);
        x.fill(0, 0, -5, 0);
        due("sum below 0", x.sum(0, 0), -50);
        for (int guest : BAD_GUESTS) {
            due("sum, guest " + guest, x.sum(guest, 1), 0);
            due("sum, guest " + guest + " and page 8", x.sum(guest, 8), 0);
        }
        for (int bad : BAD_PAGES) {
            for (int guest = 0; guest < 3; guest++) {
                due("sum(" + guest + ", " + bad + ")", x.sum(guest, bad), 0);
            }
        }
    }

    private static void promise11Same() {
        BalloonShare x = filled();
        due("same, a page and itself", x.same(1, 4, 1, 4), true);
        due("same, different pages", x.same(1, 4, 1, 5), false);
        due("same, same page of different guests", x.same(0, 4, 1, 4), false);
        for (int w = 0; w < 4; w++) {
            x.fill(0, 7, 3, 2);
            x.fill(2, 0, 3, 2);
            due("same", x.same(0, 7, 2, 0), true);
            due("same, the other way", x.same(2, 0, 0, 7), true);
            x.write(2, w, -1);
            due("same, but for word " + w, x.same(0, 7, 2, 0), false);
        }
        // The same sum and the same words in another order are not the same page.
        x.fill(0, 0, 0, 0);
        x.fill(0, 1, 0, 0);
        x.write(0, 0, 2);
        x.write(0, 5, 1);
        due("same, equal sums", x.same(0, 0, 0, 1), false);
        x.fill(0, 0, 1, 1);
        x.fill(0, 1, 4, -1);
        due("same, words turned round", x.same(0, 0, 0, 1), false);

        BalloonShare y = new BalloonShare(16);
        due("same, all 0", y.same(0, 0, 2, 7), true);
        for (int guest : BAD_GUESTS) {
            due("same, guestA " + guest, y.same(guest, 0, 0, 0), false);
            due("same, guestB " + guest, y.same(0, 0, guest, 0), false);
            due("same, both guests " + guest, y.same(guest, 0, guest, 0), false);
        }
        for (int bad : BAD_PAGES) {
            due("same, pageA " + bad, y.same(0, bad, 0, 0), false);
            due("same, pageB " + bad, y.same(0, 0, 0, bad), false);
            due("same, both pages " + bad, y.same(1, bad, 1, bad), false);
        }
    }

    private static void promise12Contents() {
        BalloonShare x = new BalloonShare(3);
        for (int guest = 0; guest < 3; guest++) {
            due("contents, all 0", x.contents(guest), 1);
            for (int page = 0; page < 8; page++) {
                x.write(guest, page * 4 + page % 4, page + 1);
                due("contents", x.contents(guest), page < 7 ? page + 2 : 8);
            }
            for (int page = 1; page < 8; page++) {
                x.copy(guest, 0, guest, page);
                due("contents, copied", x.contents(guest), 8 - page);
            }
        }
        // Pairs that do not lie side by side: 1 2 1 2 3 1 3 2.
        int[] values = {1, 2, 1, 2, 3, 1, 3, 2};
        for (int page = 0; page < 8; page++) {
            x.fill(1, page, values[page], 0);
        }
        due("contents, pairs", x.contents(1), 3);
        due("contents of another guest", x.contents(0), 1);
        for (int guest : BAD_GUESTS) {
            due("contents(" + guest + ")", x.contents(guest), -1);
        }
    }

    private static void promise13Twins() {
        BalloonShare x = new BalloonShare(3);
        for (int i = 0; i < 24; i++) {
            due("twins, pages left at 0", x.twins(2, 7), 24 - i);
            x.fill(i / 8, i % 8, 5, 1);
            due("twins, pages filled", x.twins(i / 8, i % 8), i + 1);
            due("twins, of the first page", x.twins(0, 0), i + 1);
        }
        BalloonShare y = filled();
        for (int i = 0; i < 24; i++) {
            due("twins, all different", y.twins(i / 8, i % 8), 1);
        }
        y.copy(0, 7, 1, 0);
        y.copy(0, 7, 2, 7);
        due("twins, first", y.twins(0, 7), 3);
        due("twins, middle", y.twins(1, 0), 3);
        due("twins, last", y.twins(2, 7), 3);
        y.write(1, 3, 0);
        due("twins, one word changed", y.twins(0, 7), 2);
        due("twins, of the changed page", y.twins(1, 0), 1);
        for (int guest : BAD_GUESTS) {
            due("twins, guest " + guest, y.twins(guest, 0), -1);
            due("twins, guest " + guest + " and page 8", y.twins(guest, 8), -1);
        }
        for (int bad : BAD_PAGES) {
            for (int guest = 0; guest < 3; guest++) {
                due("twins(" + guest + ", " + bad + ")", y.twins(guest, bad), -2);
            }
        }
    }

    private static void queriesChangeNothing() {
        BalloonShare x = filled();
        x.shares(2, 44);
        for (int i = 0; i < 24; i++) {
            x.sum(i / 8, i % 8);
            x.same(i / 8, i % 8, 2 - i / 8, 7 - i % 8);
            x.twins(i / 8, i % 8);
        }
        for (int guest = -1; guest <= 3; guest++) {
            x.contents(guest);
            x.read(guest, 32);
            x.sum(guest, 8);
            x.same(guest, 8, guest, -1);
            x.twins(guest, -1);
        }
        dueWords("queries", x, filledWords());
        dueWords("reads", x, filledWords());
        due("shares after queries", x.shares(2, 1), 44);
    }
}
