/** What the project's tests share: a new object a run, texts as they are written, and what is due. */
final class Yards {
    private static final int MOST_TOLD = 40;

    private static int wrong;
    private static String run = "";
    private static String sentence = "";

    private Yards() {
    }

    /** The words of the document that what comes next is a test of: they stand ahead of what is wrong. */
    static void sentence(String words) {
        sentence = "\"" + words + "\": ";
        run = "";
    }

    static FreightYards fresh(String name) {
        run = name;
        return new FreightYards();
    }

    /** The first that are wrong are told, and all are counted. */
    private static void tellWrong(String what) {
        wrong++;
        if (wrong <= MOST_TOLD) {
            System.out.println(sentence + run + ": " + what);
        }
    }

    static void due(String call, long want, long got) {
        if (got != want) {
            tellWrong(call + " answered " + got + ", due is " + want);
        }
    }

    static void due(String call, boolean want, boolean got) {
        due(call, want ? 1 : 0, got ? 1 : 0);
    }

    /** The ints that feed() takes, by fives, with blanks behind the text. */
    static int[] words(String text) {
        int fives = (text.length() + 19) / 20;
        int[] words = new int[fives * 5];
        for (int i = 0; i < fives * 20; i++) {
            int sign = i < text.length() ? text.charAt(i) & 255 : ' ';
            words[i / 4] |= sign << 24 - 8 * (i % 4);
        }
        return words;
    }

    static void feed(FreightYards x, String text) {
        int[] w = words(text);
        for (int i = 0; i < w.length; i += 5) {
            x.feed(w[i], w[i + 1], w[i + 2], w[i + 3], w[i + 4]);
        }
    }

    static int load(FreightYards x, String text) {
        feed(x, text);
        return x.load(text.length());
    }

    /** Loads what must be right. */
    static void loaded(FreightYards x, String text) {
        int procs = load(x, text);
        if (procs < 1) {
            tellWrong("load answered " + procs + ", fault " + x.fault(0) + " at " + x.fault(1) + " of: " + text);
        }
    }

    /**
     * A text with one ~ at the token where its fault is due; the ~ itself is taken out.
     * What stands ahead must be found right, so the place tells that, too.
     */
    static void faulty(int fault, String marked) {
        int place = marked.indexOf('~');
        String text = marked.replace("~", "");
        FreightYards x = new FreightYards();
        int procs = load(x, text);
        if (procs != 0 || x.fault(0) != fault || x.fault(1) != place) {
            run = text;
            tellWrong("load answered " + procs + ", fault " + x.fault(0) + " at " + x.fault(1) + "; due is fault " + fault
                + " at " + place);
        }
    }

    static void right(String text) {
        FreightYards x = fresh(text);
        loaded(x, text);
        due("fault(0)", 0, x.fault(0));
        due("fault(1)", FreightYards.NONE, x.fault(1));
    }

    /** What the proc of a text gives that is run with two ints and all the fuel there is. */
    static int given(String text, int a, int b) {
        FreightYards x = fresh(text);
        loaded(x, text);
        due("run", 0, x.run(0, a, b, 2000));
        return x.told(1);
    }

    /** All that an object tells, for what changes nothing. */
    static String all(FreightYards x) {
        StringBuilder s = new StringBuilder();
        s.append("fault ").append(x.fault(0)).append(' ').append(x.fault(1));
        for (int what = 0; what <= 6; what++) {
            s.append(", told ").append(x.told(what));
        }
        for (int what = 0; what <= 8; what++) {
            s.append(", count ").append(x.count(what));
        }
        for (int i = 0; i < x.count(7); i++) {
            s.append(", said ").append(x.said(i));
        }
        for (int v = 0; v < x.count(1); v++) {
            for (int what = 0; what <= 9; what++) {
                s.append(", vehicle ").append(x.vehicle(v, what));
            }
        }
        for (int n = 0; n < 8; n++) {
            for (int what = 0; what <= 3; what++) {
                s.append(", track ").append(x.track(n, what));
            }
            for (int i = 0; i < 40; i++) {
                s.append(", place ").append(x.place(n, i));
            }
        }
        for (int t = 0; t < x.count(4); t++) {
            for (int what = 0; what <= 4; what++) {
                s.append(", train ").append(x.train(t, what));
            }
        }
        return s.toString();
    }

    static void unchanged(String call, String before, FreightYards x) {
        due(call + " changes nothing", true, before.equals(all(x)));
    }

    static void end() {
        System.out.println(wrong == 0 ? "all answers are as due" : wrong + " answers are not as due");
        if (wrong != 0) {
            System.exit(1);
        }
    }
}
