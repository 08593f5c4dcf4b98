import java.util.ArrayList;
import java.util.Arrays;
import java.util.HashSet;
import java.util.List;
import java.util.Random;

/**
 * Many runs of calls, drawn from fixed seeds, each answer held against a model that is written
 * in another way than the class. No run goes beyond the 512 calls that the document promises.
 */
public final class ModelRunsTest {
    private static final int[] FRAMES =
            {3, 4, 5, 8, 15, 16, 2, 1, 0, -1, 17, 24, Integer.MIN_VALUE, Integer.MAX_VALUE};
    private static final int[] ODD = {Integer.MIN_VALUE, Integer.MIN_VALUE + 1, -4, -1, 0, 1, 3, 8, 32, 100, 101,
            Integer.MAX_VALUE - 1, Integer.MAX_VALUE};
    private static final int LONGEST = 512;
    private static final int PROBE = 96 + 3;

    private static int wrong = 0;

    /** The document's words, over lists: a page is a list of four numbers. */
    private static final class Model {
        final List<List<List<Integer>>> guests = new ArrayList<>();
        final List<Integer> shares = new ArrayList<>(List.of(1, 1, 1));

        Model() {
            for (int g = 0; g < 3; g++) {
                List<List<Integer>> pages = new ArrayList<>();
                for (int p = 0; p < 8; p++) {
                    pages.add(List.of(0, 0, 0, 0));
                }
                guests.add(pages);
            }
        }

        static boolean guest(int g) {
            return g == 0 || g == 1 || g == 2;
        }

        static boolean page(int p) {
            return (p & ~7) == 0;
        }

        static boolean word(int at) {
            return (at & ~31) == 0;
        }

        List<Integer> at(int g, int p) {
            return guests.get(g).get(p);
        }

        long answer(String name, int[] a) {
            switch (name) {
                case "write": {
                    if (!guest(a[0])) return -1;
                    if (!word(a[1])) return -3;
                    List<Integer> page = new ArrayList<>(at(a[0], a[1] / 4));
                    page.set(a[1] % 4, a[2]);
                    guests.get(a[0]).set(a[1] / 4, List.copyOf(page));
                    return 0;
                }
                case "fill":
                    if (!guest(a[0])) return -1;
                    if (!page(a[1])) return -2;
                    guests.get(a[0]).set(a[1], List.of(a[2], a[2] + a[3], a[2] + 2 * a[3], a[2] + 3 * a[3]));
                    return 0;
                case "copy":
                    if (!guest(a[0]) || !guest(a[2])) return -1;
                    if (!page(a[1]) || !page(a[3])) return -2;
                    guests.get(a[2]).set(a[3], at(a[0], a[1]));
                    return 0;
                case "release":
                    if (!guest(a[0])) return -1;
                    if (!page(a[1])) return -2;
                    guests.get(a[0]).set(a[1], List.of(0, 0, 0, 0));
                    return 0;
                case "cloneGuest":
                    if (!guest(a[0]) || !guest(a[1])) return -1;
                    guests.set(a[1], new ArrayList<>(guests.get(a[0])));
                    return 0;
                case "shares":
                    if (!guest(a[0])) return -1;
                    if (a[1] < 1 || a[1] > 100) return -4;
                    return shares.set(a[0], a[1]);
                case "tidy":
                    return 0;
                default:
                    return query(name, a);
            }
        }

        long query(String name, int[] a) {
            switch (name) {
                case "read":
                    return guest(a[0]) && word(a[1]) ? at(a[0], a[1] / 4).get(a[1] % 4) : 0;
                case "sum": {
                    if (!guest(a[0]) || !page(a[1])) return 0;
                    List<Integer> p = at(a[0], a[1]);
                    return (int) (p.get(0) + 2L * p.get(1) + 3L * p.get(2) + 4L * p.get(3));
                }
                case "same":
                    if (!guest(a[0]) || !guest(a[2]) || !page(a[1]) || !page(a[3])) return 0;
                    return at(a[0], a[1]).equals(at(a[2], a[3])) ? 1 : 0;
                case "contents":
                    return guest(a[0]) ? new HashSet<>(guests.get(a[0])).size() : -1;
                case "twins": {
                    if (!guest(a[0])) return -1;
                    if (!page(a[1])) return -2;
                    List<Integer> p = at(a[0], a[1]);
                    return guests.stream().flatMap(List::stream).filter(p::equals).count();
                }
                default:
                    throw new IllegalArgumentException(name);
            }
        }
    }

    private static long call(BalloonShare x, String name, int[] a) {
        switch (name) {
            case "write": return x.write(a[0], a[1], a[2]);
            case "fill": return x.fill(a[0], a[1], a[2], a[3]);
            case "copy": return x.copy(a[0], a[1], a[2], a[3]);
            case "release": return x.release(a[0], a[1]);
            case "cloneGuest": return x.cloneGuest(a[0], a[1]);
            case "shares": return x.shares(a[0], a[1]);
            case "tidy": x.tidy(a[0]); return 0;
            case "read": return x.read(a[0], a[1]);
            case "sum": return x.sum(a[0], a[1]);
            case "same": return x.same(a[0], a[1], a[2], a[3]) ? 1 : 0;
            case "contents": return x.contents(a[0]);
            case "twins": return x.twins(a[0], a[1]);
            default: throw new IllegalArgumentException(name);
        }
    }

    /** Each method with the kinds of its arguments: g guest, p page, a word, s shares, v any number. */
    private static final String[][] METHODS = {
            {"write", "gav"}, {"write", "gav"}, {"fill", "gpvv"}, {"fill", "gpvv"}, {"copy", "gpgp"},
            {"release", "gp"}, {"cloneGuest", "gg"}, {"shares", "gs"}, {"tidy", "v"}, {"read", "ga"},
            {"sum", "gp"}, {"same", "gpgp"}, {"contents", "g"}, {"twins", "gp"}};

    private static int draw(Random random, char kind) {
        if (random.nextInt(25) == 0) {
            return ODD[random.nextInt(ODD.length)];
        }
        switch (kind) {
            case 'g': return random.nextInt(3);
            case 'p': return random.nextInt(8);
            case 'a': return random.nextInt(32);
            case 's': return 1 + random.nextInt(100);
            // Few values, so that equal pages come up often.
            default: return random.nextInt(20) == 0 ? random.nextInt() : random.nextInt(3);
        }
    }

    private static void check(String run, BalloonShare x, Model model, String name, int... a) {
        long want = model.answer(name, a);
        long got = call(x, name, a);
        if (got != want) {
            wrong++;
            if (wrong <= 50) {
                System.out.println(run + ": " + name + Arrays.toString(a) + " answered " + got + ", due is " + want);
            }
        }
    }

    private static void run(long seed, int frames, int calls) {
        Random random = new Random(seed);
        BalloonShare x = new BalloonShare(frames);
        Model model = new Model();
        String run = "seed " + seed + ", frames " + frames;
        for (int i = 0; i < calls; i++) {
            String[] method = METHODS[random.nextInt(METHODS.length)];
            int[] a = new int[method[1].length()];
            for (int k = 0; k < a.length; k++) {
                a[k] = draw(random, method[1].charAt(k));
            }
            check(run + ", call " + i, x, model, method[0], a);
        }
        // At the end the whole state is looked at, so that no change stays unseen.
        for (int i = 0; i < 96; i++) {
            check(run + ", at the end", x, model, "read", i / 32, i % 32);
        }
        for (int g = 0; g < 3; g++) {
            check(run + ", at the end", x, model, "shares", g, 1);
        }
    }

    public static void main(String[] args) {
        for (int seed = 0; seed < 200; seed++) {
            for (int frames : FRAMES) {
                run(seed, frames, LONGEST - PROBE);
            }
        }
        // Short runs see each single change before a later call can hide it.
        for (int seed = 1000; seed < 9000; seed++) {
            run(seed, FRAMES[seed % FRAMES.length], seed % 40);
        }
        System.out.println(wrong == 0 ? "all answers are as due" : wrong + " answers are not as due");
        if (wrong != 0) {
            System.exit(1);
        }
    }
}
