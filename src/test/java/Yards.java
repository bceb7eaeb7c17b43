/** What the project's tests share: a new object a run, texts as they are written, and what is due. */
final class Yards {
    private static int wrong;
    private static String run = "";

    private Yards() {
    }

    static FreightYards fresh(String name) {
        run = name;
        return new FreightYards();
    }

    static void due(String call, long want, long got) {
        if (got != want) {
            wrong++;
            System.out.println(run + ": " + call + " answered " + got + ", due is " + want);
        }
    }

    static void due(String call, boolean want, boolean got) {
        due(call, want ? 1 : 0, got ? 1 : 0);
    }

    /** The ints that feed() takes, by fives, with blanks behind the text. */
    static int[] words(String text) {
        int fives = (text.length() + 19) / 20;
        int[] words = new int[fives * 5];
        for (int i = 0; i < fives * 20; i++) {
            int sign = i < text.length() ? text.charAt(i) & 255 : ' ';
            words[i / 4] |= sign << 24 - 8 * (i % 4);
        }
        return words;
    }

    static void feed(FreightYards x, String text) {
        int[] w = words(text);
        for (int i = 0; i < w.length; i += 5) {
            x.feed(w[i], w[i + 1], w[i + 2], w[i + 3], w[i + 4]);
        }
    }

    static int load(FreightYards x, String text) {
        feed(x, text);
        return x.load(text.length());
    }

    /** Loads what must be right. */
    static void loaded(FreightYards x, String text) {
        int procs = load(x, text);
        if (procs < 1) {
            wrong++;
            System.out.println(run + ": load answered " + procs + ", fault " + x.fault(0) + " at " + x.fault(1)
                + " of: " + text);
        }
    }

    /**
     * A text with one ~ at the token where its fault is due; the ~ itself is taken out.
     * What stands ahead must be found right, so the place tells that, too.
     */
    static void faulty(int fault, String marked) {
        int place = marked.indexOf('~');
        String text = marked.replace("~", "");
        FreightYards x = new FreightYards();
        int procs = load(x, text);
        if (procs != 0 || x.fault(0) != fault || x.fault(1) != place) {
            wrong++;
            System.out.println("text: " + text + "\n  load answered " + procs + ", fault " + x.fault(0) + " at "
                + x.fault(1) + "; due is fault " + fault + " at " + place);
        }
    }

    static void right(String text) {
        FreightYards x = fresh(text);
        loaded(x, text);
        due("fault(0)", 0, x.fault(0));
        due("fault(1)", FreightYards.NONE, x.fault(1));
    }

    static void end() {
        System.out.println(wrong == 0 ? "all answers are as due" : wrong + " answers are not as due");
        if (wrong != 0) {
            System.exit(1);
        }
    }
}
