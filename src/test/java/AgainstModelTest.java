import java.util.Random;
import java.util.Map;
import java.util.TreeMap;

/** Runs of calls by chance (of fixed seeds): the class and the model must answer alike. */
public final class AgainstModelTest {
    private static int wrong;
    private static final Map<String, Integer> SEEN = new TreeMap<>();

    private FreightYards x = new FreightYards();
    private Model m = new Model();
    private final Random r;
    private final long seed;
    private String text = "";

    private AgainstModelTest(long seed) {
        this.seed = seed;
        this.r = new Random(seed);
    }

    private int same(String call, int got, int want) {
        if (got != want) {
            wrong++;
            if (wrong < 20) {
                System.out.println("seed " + seed + ": " + call + " answered " + got + ", due is " + want
                    + " with the text: " + text);
            }
        }
        return got;
    }

    private static void seen(String what) {
        SEEN.merge(what, 1, Integer::sum);
    }

    private void loadSome() {
        text = new Texts(r).write();
        if (text.length() > 2960) {
            return;
        }
        int[] words = Yards.words(text);
        for (int i = 0; i < words.length; i += 5) {
            same("feed", x.feed(words[i], words[i + 1], words[i + 2], words[i + 3], words[i + 4]),
                m.feed(words[i], words[i + 1], words[i + 2], words[i + 3], words[i + 4]));
        }
        int n = r.nextInt(30) == 0 ? r.nextInt(text.length() + 40) : text.length();
        same("load(" + n + ")", x.load(n), m.load(n));
        seen("text fault " + same("fault(0)", x.fault(0), m.fault(0)));
        same("fault(1)", x.fault(1), m.fault(1));
    }

    private void runSome() {
        int p = r.nextInt(5) - r.nextInt(2);
        int a = r.nextInt(12) - 3;
        int b = r.nextInt(12) - 3;
        int fuel = r.nextInt(3) > 0 ? r.nextInt(300) : r.nextInt(2002) - r.nextInt(2);
        String call = "run(" + p + ", " + a + ", " + b + ", " + fuel + ")";
        seen("run " + same(call, x.run(p, a, b, fuel), m.run(p, a, b, fuel)));
        for (int i = -1; i < 8; i++) {
            same(call + ", told(" + i + ")", x.told(i), m.told(i));
        }
    }

    private void compareAll() {
        for (int i = -1; i < 10; i++) {
            same("count(" + i + ")", x.count(i), m.count(i));
        }
        int said = m.count(7);
        for (int i = -1; i <= said; i++) {
            same("said(" + i + ")", x.said(i), m.said(i));
        }
        int vehicles = m.count(1);
        for (int v = -1; v <= vehicles; v++) {
            for (int what = -1; what < 11; what++) {
                same("vehicle(" + v + ", " + what + ")", x.vehicle(v, what), m.vehicle(v, what));
            }
        }
        for (int n = -1; n < 9; n++) {
            for (int what = -1; what < 5; what++) {
                same("track(" + n + ", " + what + ")", x.track(n, what), m.track(n, what));
            }
            for (int i = -1; i < 42; i++) {
                same("place(" + n + ", " + i + ")", x.place(n, i), m.place(n, i));
            }
        }
        for (int t = -1; t < 11; t++) {
            for (int what = -1; what < 6; what++) {
                same("train(" + t + ", " + what + ")", x.train(t, what), m.train(t, what));
            }
            seen("train " + m.train(t, 0));
        }
    }

    private void go() {
        for (int round = 0; round < 12; round++) {
            loadSome();
            for (int i = 0; i < 6; i++) {
                runSome();
                if (r.nextInt(4) == 0) {
                    int n = r.nextInt(10) - 1;
                    int what = r.nextInt(20) - 1;
                    same("state", x.state(n, what) ? 1 : 0, m.state(n, what) ? 1 : 0);
                }
                if (r.nextInt(4) == 0) {
                    int n = r.nextInt(20) == 0 ? r.nextInt(250) - 20 : r.nextInt(12);
                    same("tick(" + n + ")", x.tick(n), m.tick(n));
                }
            }
            if (round % 3 == 0) {
                compareAll();
            }
        }
        compareAll();
    }

    public static void main(String[] args) {
        int from = args.length > 0 ? Integer.parseInt(args[0]) : 0;
        int runs = args.length > 1 ? Integer.parseInt(args[1]) : 1500;
        for (int seed = from; seed < from + runs && wrong < 20; seed++) {
            new AgainstModelTest(seed).go();
        }
        System.out.println(SEEN);
        System.out.println(wrong == 0 ? "all answers are as the model's" : wrong + " answers are not as the model's");
        if (wrong != 0) {
            System.exit(1);
        }
    }
}
