/** Promises 1 to 14: the sentences on calls that name a bound or a refusal; a sentence a test. */
public final class BoundsOfCallsTest {
    private static final int NONE = FreightYards.NONE;
    private static final int MOST = Integer.MAX_VALUE;
    private static final int LEAST = Integer.MIN_VALUE;

    private static final String TEXT = "to m(INT k): INT { var VEHICLE[] r = new VEHICLE[3]; var DIESEL d = new DIESEL(); "
        + "d.tag = 5; d.fuel = 9; r[0] = d; var REEFER b = new REEFER(); b.load = 7; b.chill = -2; b.behind = d; r[2] = b; "
        + "var CRANE c = new CRANE(); c.reach = 4; lay(2, r); lay(5, r); lay(6, new BOX[1]); send(r, 3, 9); send(r, 4, 1000); "
        + "say 11; say r; say none; try { fail 3; } catch (e) { say e; } return k; } "
        + "to b(BOX b) { } to t(INT x, INT y, INT z) { } to w(INT x, BOX y) { } to p(INT x, INT y): INT { return x - y; } "
        + "to r(VEHICLE[] r) { } to z() { }";
    private static final int PROCS = 7;

    public static void main(String[] args) {
        noneIsMinusOne();
        aNewObjectHasNothing();
        feedUpToFull();
        feedTakesTheHighestFirst();
        loadOfTheFirstBytes();
        loadEmptiesTheTape();
        loadWithAFault();
        loadOfMoreThanThereIs();
        loadKeepsTheYards();
        loadManyTimes();
        faultAheadOfAny();
        faultOfTheLatest();
        runOfNoSuchProc();
        runOfOtherParameters();
        runWithFuel();
        runTakesTwoAtMost();
        toldAheadOfAny();
        toldOfTheLatest();
        toldOfWhatItGave();
        toldOfWhatItGaveNot();
        toldOfOwnFaults();
        saidAsFarAsThereIs();
        stateOfNoTrackOrNumber();
        stateTakesWhatIsNotBelow();
        tickSoMany();
        vehicleOfNoSuch();
        vehicleHasNone();
        trackOfNoSuch();
        trackWithTheSameRow();
        placeOfNoSuch();
        trainOfNoSuch();
        trainMassAsItIsNow();
        countOfNoSuch();
        countsAll();
        whatIsRefusedChangesNothing();
        Yards.end();
    }

    /** Three vehicles, two rows, two trains of which the clock has moved one there, and 20 bytes on the tape. */
    private static FreightYards rich(String name) {
        FreightYards x = Yards.fresh(name);
        Yards.loaded(x, TEXT);
        Yards.due("run", 0, x.run(0, 77, 0, 2000));
        x.state(5, 0);
        x.state(3, 0);
        x.tick(4);
        x.feed(1, 2, 3, 4, 5);
        return x;
    }

    private static void noneIsMinusOne() {
        Yards.sentence("The constants: NONE = -1");
        Yards.fresh("constant");
        Yards.due("NONE", -1, FreightYards.NONE);
    }

    private static void aNewObjectHasNothing() {
        Yards.sentence("FreightYards(): No text, no VEHICLES, CLOCK 0");
        FreightYards x = Yards.fresh("new");
        for (int what = 0; what <= 8; what++) {
            Yards.due("count(" + what + ")", 0, x.count(what));
        }
        Yards.due("run(0)", NONE, x.run(0, 0, 0, 0));
        Yards.due("vehicle(0, 0)", NONE, x.vehicle(0, 0));
        Yards.due("train(0, 0)", NONE, x.train(0, 0));
        Yards.due("said(0)", 0, x.said(0));
        Yards.due("place(0, 0)", NONE, x.place(0, 0));
    }

    private static void feedUpToFull() {
        Yards.sentence("feed: how many it has; NONE, and nothing comes, if it would have more than 3,000");
        FreightYards x = Yards.fresh("feed");
        for (int i = 1; i <= 150; i++) {
            Yards.due("feed", 20 * i, x.feed(0x20202020, 0x20202020, 0x20202020, 0x20202020, 0x20202020));
        }
        for (int i = 0; i < 5; i++) {
            Yards.due("feed of a full tape", NONE, x.feed(-1, -1, -1, -1, -1));
            Yards.due("count(8)", 3000, x.count(8));
        }
        Yards.due("load(3000)", 0, x.load(3000));
        Yards.due("only blanks: the end", 3000, x.fault(1));
        Yards.due("feed", 20, x.feed(0, 0, 0, 0, 0));
    }

    private static void feedTakesTheHighestFirst() {
        Yards.sentence("Twenty bytes come behind the tape, the highest of each int first");
        for (int i = 0; i < 20; i++) {
            int[] word = {0x20202020, 0x20202020, 0x20202020, 0x20202020, 0x20202020};
            word[i / 4] = word[i / 4] & ~(255 << 24 - 8 * (i % 4)) | 233 << 24 - 8 * (i % 4);
            FreightYards x = Yards.fresh("byte " + i);
            x.feed(0x20202020, 0x20202020, 0x20202020, 0x20202020, 0x20202020);
            x.feed(word[0], word[1], word[2], word[3], word[4]);
            Yards.due("load(40)", 0, x.load(40));
            Yards.due("fault(1)", 20 + i, x.fault(1));
        }
        FreightYards x = Yards.fresh("ints below 0");
        x.feed(-1, LEAST, MOST, 0, -2);
        Yards.due("load(20)", 0, x.load(20));
        Yards.due("fault(1)", 0, x.fault(1));
    }

    private static void loadOfTheFirstBytes() {
        Yards.sentence("load: The first n bytes of the tape are read as a TEXT: how many PROCS");
        String text = "to a(){} to b(){} to c(){}          ";
        int[] n = {8, 9, 17, 18, 26, 30, 36};
        int[] procs = {1, 1, 2, 2, 3, 3, 3};
        for (int i = 0; i < n.length; i++) {
            FreightYards x = Yards.fresh("load(" + n[i] + ")");
            Yards.feed(x, text);
            Yards.due("load", procs[i], x.load(n[i]));
            Yards.due("count(0)", procs[i], x.count(0));
        }
        for (int k = 0; k <= 7; k++) {
            FreightYards x = Yards.fresh("load(" + k + ")");
            Yards.feed(x, text);
            Yards.due("load", 0, x.load(k));
            Yards.due("fault(0)", 1, x.fault(0));
            Yards.due("the end, or a t alone", k == 1 ? 0 : k, x.fault(1));
        }
    }

    private static void loadEmptiesTheTape() {
        Yards.sentence("the tape (empty then)");
        FreightYards x = Yards.fresh("a right text, a faulty one, none");
        for (int n : new int[] {9, 5, 0, 40}) {
            Yards.feed(x, "to a(){} to b(){} to c(){} to d(){}     ");
            Yards.due("count(8)", 40, x.count(8));
            Yards.due("load", n == 9 ? 1 : n == 40 ? 4 : 0, x.load(n));
            Yards.due("count(8)", 0, x.count(8));
            Yards.due("load(1)", NONE, x.load(1));
        }
        Yards.due("load(0) of an empty tape", 0, x.load(0));
        Yards.due("fault(0)", 1, x.fault(0));
        Yards.due("fault(1)", 0, x.fault(1));
    }

    private static void loadWithAFault() {
        Yards.sentence("it is the text now; 0 with a FAULT (the text before stays)");
        FreightYards x = Yards.fresh("texts");
        String[] faulty = {"to a(): INT { return 9; } to", "", "to a() { x(); }", "to a() { } to a() { }",
            "to a(): INT { return none; }", "to a(INT a, INT b, INT c, INT d, INT e) { }"};
        int[] fault = {1, 1, 2, 3, 4, 5};
        Yards.loaded(x, "to a(): INT { return 7; } to b(INT x): INT { try { fail x; } catch (e) { return e; } }");
        for (int i = 0; i < faulty.length; i++) {
            Yards.due("load", 0, Yards.load(x, faulty[i]));
            Yards.due("fault(0)", fault[i], x.fault(0));
            Yards.due("count(0)", 2, x.count(0));
            Yards.due("run(0)", 0, x.run(0, 0, 0, 9));
            Yards.due("told(1)", 7, x.told(1));
            Yards.due("run(1)", 0, x.run(1, 8, 0, 9));
            Yards.due("told(1)", 8, x.told(1));
        }
        Yards.loaded(x, "to a(): INT { return 5; }");
        Yards.due("run(0)", 0, x.run(0, 0, 0, 9));
        Yards.due("told(1)", 5, x.told(1));
        Yards.due("run(1)", NONE, x.run(1, 0, 0, 9));
    }

    private static void loadOfMoreThanThereIs() {
        Yards.sentence("load: NONE, and nothing happens, if the tape has fewer, or n is below 0");
        FreightYards x = Yards.fresh("load");
        Yards.loaded(x, "to a() { }");
        Yards.feed(x, "to b() { } to c(){} ");
        for (int n : new int[] {21, 22, 3000, 3001, MOST, -1, -20, LEAST}) {
            String before = Yards.all(x);
            Yards.due("load(" + n + ")", NONE, x.load(n));
            Yards.unchanged("load(" + n + ")", before, x);
        }
        Yards.due("load(20)", 2, x.load(20));
    }

    private static void loadKeepsTheYards() {
        Yards.sentence("VEHICLES, TRACKS, TRAINS stay");
        for (String next : new String[] {"to q() { }", "to q() { x", ""}) {
            FreightYards x = rich("load of: " + next);
            x.load(0);
            String before = Yards.all(x);
            int procs = Yards.load(x, next);
            String after = Yards.all(x);
            String same = ", count " + (procs > 0 ? procs : PROCS) + before.substring(before.indexOf(", count 3, count"));
            Yards.due("all but the text stays", true, after.contains(same));
        }
    }

    private static void loadManyTimes() {
        Yards.sentence("it is the text now (also the hundredth)");
        FreightYards x = Yards.fresh("many loads");
        String tries = "(): INT { var INT s = 0; " + "try { fail 1; } catch (e) { s = s + e; } ".repeat(20) + "return s; } ";
        for (int i = 0; i < 6; i++) {
            Yards.loaded(x, "to m" + tries + "to n" + tries);
            for (int p = 0; p < 2; p++) {
                Yards.due("run", 0, x.run(p, 0, 0, 2000));
                Yards.due("told(1)", 20, x.told(1));
            }
        }
        int[] parameters = {2, 0, 1, 0, 2};
        String[] texts = {"to m(INT a, INT b): INT { return a + b; }", "to m(): INT { return 3; }",
            "to m(INT a): INT { return a; }", "to m() { } to n(INT a): INT { return a; }", "to m(INT a, INT b): INT { return b; }"};
        int[] given = {9, 3, 4, 0, 5};
        for (int i = 0; i < texts.length; i++) {
            Yards.loaded(x, texts[i]);
            Yards.due("run", 0, x.run(0, 4, 5, 9));
            Yards.due("told(1) with " + parameters[i] + " parameters", given[i], x.told(1));
        }
    }

    private static void faultAheadOfAny() {
        Yards.sentence("fault: 0 and NONE ahead of any; NONE for another what");
        FreightYards x = Yards.fresh("ahead of any");
        for (int i = 0; i < 3; i++) {
            Yards.due("fault(0)", 0, x.fault(0));
            Yards.due("fault(1)", NONE, x.fault(1));
            for (int what : new int[] {-1, 2, 3, MOST, LEAST}) {
                Yards.due("fault(" + what + ")", NONE, x.fault(what));
            }
            // a load that is refused is none
            x.load(1);
            x.load(-1);
        }
        Yards.load(x, "to m() { x; }");
        for (int what : new int[] {-1, 2, 3, MOST, LEAST}) {
            Yards.due("fault(" + what + ")", NONE, x.fault(what));
        }
    }

    private static void faultOfTheLatest() {
        Yards.sentence("Of the latest load(): what 0: the FAULT (0: none), 1: its place, .. (.. NONE without one)");
        FreightYards x = Yards.fresh("loads");
        Yards.load(x, "to m() { x; }");
        Yards.due("fault(0)", 2, x.fault(0));
        Yards.due("fault(1)", 9, x.fault(1));
        Yards.load(x, "to m() { }");
        Yards.due("fault(0)", 0, x.fault(0));
        Yards.due("fault(1)", NONE, x.fault(1));
        Yards.load(x, "  )");
        Yards.due("fault(0)", 1, x.fault(0));
        Yards.due("fault(1)", 2, x.fault(1));
        Yards.load(x, "");
        Yards.due("fault(0)", 1, x.fault(0));
        Yards.due("fault(1)", 0, x.fault(1));
        x.run(0, 0, 0, 9);
        x.tick(1);
        Yards.due("fault(0)", 1, x.fault(0));
    }

    private static void refused(FreightYards x, String call, int answered, String before) {
        Yards.due(call, NONE, answered);
        Yards.unchanged(call, before, x);
    }

    private static void runOfNoSuchProc() {
        Yards.sentence("run: NONE, and nothing is done, if there is no such PROC");
        FreightYards x = rich("run");
        String before = Yards.all(x);
        for (int p : new int[] {-1, -5, PROCS, PROCS + 1, 12, 17, MOST, LEAST}) {
            refused(x, "run(" + p + ")", x.run(p, 1, 2, 100), before);
        }
        Yards.due("run of the last", 0, x.run(PROCS - 1, 1, 2, 100));
        x = Yards.fresh("no text");
        Yards.due("run(0)", NONE, x.run(0, 0, 0, 9));
        Yards.load(x, "to");
        Yards.due("run(0)", NONE, x.run(0, 0, 0, 9));
    }

    private static void runOfOtherParameters() {
        Yards.sentence("NONE, and nothing is done, if .. it has another parameter (INTS, two at most)");
        FreightYards x = rich("run");
        String before = Yards.all(x);
        for (int p : new int[] {1, 2, 3, 5}) {
            refused(x, "run(" + p + ")", x.run(p, 1, 2, 100), before);
        }
        Yards.due("two ints", 0, x.run(4, 1, 2, 100));
        Yards.due("one int", 0, x.run(0, 1, 2, 100));
        Yards.due("none", 0, x.run(6, 1, 2, 100));
        x = Yards.fresh("four ints");
        Yards.loaded(x, "to m(INT a, INT b, INT c, INT d) { } to n(HOLDS h) { } to o(BOX b, INT a) { }");
        for (int p = 0; p < 3; p++) {
            Yards.due("run(" + p + ")", NONE, x.run(p, 1, 2, 100));
        }
    }

    private static void runWithFuel() {
        Yards.sentence("NONE, and nothing is done, if .. fuel is not 0 .. 2000");
        FreightYards x = rich("run");
        String before = Yards.all(x);
        for (int fuel : new int[] {-1, 2001, -2000, MOST, LEAST}) {
            refused(x, "run with fuel " + fuel, x.run(6, 1, 2, fuel), before);
        }
        Yards.due("run with fuel 0", 0, x.run(6, 1, 2, 0));
        Yards.due("told(4)", 0, x.told(4));
        Yards.due("run with fuel 2000", 0, x.run(6, 1, 2, 2000));
        Yards.due("told(4)", 2000, x.told(4));
        Yards.due("run with fuel 1", 7, x.run(4, 1, 2, 1));
    }

    private static void runTakesTwoAtMost() {
        Yards.sentence("whose parameters are INTS, two at most (x, y)");
        FreightYards x = Yards.fresh("parameters");
        Yards.loaded(x, "to n(): INT { return 4; } to o(INT a): INT { return a; } to m(INT a, INT b): INT { return a - b; }");
        int[] some = {0, 1, -1, MOST, LEAST};
        for (int a : some) {
            for (int b : some) {
                Yards.due("run", 0, x.run(0, a, b, 9));
                Yards.due("told(1)", 4, x.told(1));
                Yards.due("run", 0, x.run(1, a, b, 9));
                Yards.due("told(1)", a, x.told(1));
                Yards.due("run", 0, x.run(2, a, b, 9));
                Yards.due("told(1)", a - b, x.told(1));
            }
        }
    }

    private static void told(FreightYards x, int... due) {
        for (int what = 0; what < due.length; what++) {
            Yards.due("told(" + what + ")", due[what], x.told(what));
        }
        for (int what : new int[] {-1, 7, 8, MOST, LEAST}) {
            Yards.due("told(" + what + ")", NONE, x.told(what));
        }
    }

    private static void toldAheadOfAny() {
        Yards.sentence("told: NONE for another what, and ahead of any run");
        FreightYards x = Yards.fresh("ahead of any run");
        told(x, -1, -1, -1, -1, -1, -1, -1);
        Yards.loaded(x, "to m(): INT { return 5; }");
        told(x, -1, -1, -1, -1, -1, -1, -1);
        x.run(1, 0, 0, 9);
        x.run(0, 0, 0, 2001);
        told(x, -1, -1, -1, -1, -1, -1, -1);
        x.run(0, 0, 0, 9);
        told(x, 0, 5, -1, -1, 7, 0, -1);
    }

    private static void toldOfTheLatest() {
        Yards.sentence("Of the latest run() that was not NONE");
        FreightYards x = Yards.fresh("runs");
        String text = "to m(): INT { return 5; } to f() { fail 8; } to v(): BOX { return new BOX(); }";
        Yards.loaded(x, text);
        x.run(0, 0, 0, 9);
        told(x, 0, 5, -1, -1, 7, 0, -1);
        x.run(0, 0, 0, -1);
        told(x, 0, 5, -1, -1, 7, 0, -1);
        x.run(1, 0, 0, 9);
        told(x, 6, 0, -1, -1, 7, 8, text.indexOf("fail"));
        x.run(3, 0, 0, 9);
        told(x, 6, 0, -1, -1, 7, 8, text.indexOf("fail"));
        x.run(2, 0, 0, 9);
        told(x, 0, 0, 5, 0, 7, 0, -1);
        x.run(2, 0, 0, 1);
        told(x, 7, 0, -1, -1, 0, 0, text.indexOf("return new"));
        Yards.loaded(x, "to q() { }");
        told(x, 7, 0, -1, -1, 0, 0, text.indexOf("return new"));
        x.run(0, 0, 0, 9);
        told(x, 0, 0, -1, -1, 9, 0, -1);
    }

    private static void gave(String type, String statements, int given, int of, int number) {
        FreightYards x = Yards.fresh(statements);
        Yards.loaded(x, "to m()" + type + " { " + statements + " }");
        Yards.due("run", 0, x.run(0, 0, 0, 100));
        Yards.due("told(1)", given, x.told(1));
        Yards.due("told(2)", of, x.told(2));
        Yards.due("told(3)", number, x.told(3));
    }

    private static void toldOfWhatItGave() {
        Yards.sentence("1: the INT that the PROC gave (0 without one, and of a REFERENCE); 2: the TYPE of the REFERENCE that it "
            + "gave, as it is (NONE: NOTHING, or an INT ..); 3: of a VEHICLE its NUMBER, of a ROW its places (NONE)");
        gave("", "", 0, NONE, NONE);
        gave("", "return;", 0, NONE, NONE);
        gave(": INT", "", 0, NONE, NONE);
        gave(": INT", "return -1;", -1, NONE, NONE);
        gave(": INT", "return 3;", 3, NONE, NONE);
        gave(": INT", "say new BOX(); return 1;", 1, NONE, NONE);
        gave(": VEHICLE", "", 0, NONE, NONE);
        gave(": VEHICLE", "return none;", 0, NONE, NONE);
        gave(": VEHICLE", "return new VEHICLE();", 0, 0, 0);
        gave(": VEHICLE", "say new BOX(); return new CRANE();", 0, 12, 1);
        gave(": BURNS", "say new BOX(); say new BOX(); return new REEFER();", 0, 10, 2);
        gave(": VEHICLE[]", "return none;", 0, NONE, NONE);
        gave(": VEHICLE[]", "return new VEHICLE[0];", 0, 18, 0);
        gave(": VEHICLE[]", "return new CRANE[40];", 0, 30, 40);
        gave(": BURNS[]", "say new BOX[3]; return new BURNS[1];", 0, 35, 1);
        gave(": BURNS[]", "say new BOX[3]; return new STEAM[1];", 0, 21, 1);
    }

    private static void toldOfWhatItGaveNot() {
        Yards.sentence("(NONE: .. or it was not DONE); FUEL left; NONE: DONE");
        FreightYards x = Yards.fresh("faults and ends");
        String text = "to i(INT k): INT { if (k == 1) { say none.tag; } if (k == 7) { while (k) { } } if (k == 8) { "
            + "say new BOX[41]; } if (k == 9) { return i(9); } return 4; }";
        Yards.loaded(x, text);
        x.run(0, 0, 0, 100);
        told(x, 0, 4, -1, -1, 82, 0, -1);
        x.run(0, 1, 0, 100);
        told(x, 1, 0, -1, -1, 94, 0, text.indexOf("tag"));
        x.run(0, 7, 0, 99);
        told(x, 7, 0, -1, -1, 0, 0, text.indexOf("while"));
        x.run(0, 8, 0, 100);
        told(x, 8, 0, -1, -1, 86, 0, text.indexOf("new"));
        x.run(0, 9, 0, 2000);
        told(x, 9, 0, -1, -1, 2000 - 15 * 18, 0, text.indexOf("i(9)"));
    }

    private static void toldOfOwnFaults() {
        Yards.sentence("5: the INT of an OWN FAULT that came out (0)");
        FreightYards x = Yards.fresh("own faults");
        Yards.loaded(x, "to f(INT k) { fail k; } to c(INT k) { try { f(k); } catch (e) { } } "
            + "to d(INT k) { try { f(k); } catch (e) { say none.tag; } } to e(INT k) { try { f(k); } catch (e) { fail e - 1; } }");
        for (int own : new int[] {1, 6, 0, -1, MOST, LEAST}) {
            Yards.due("run", 6, x.run(0, own, 0, 99));
            Yards.due("told(5)", own, x.told(5));
            Yards.due("run", 0, x.run(1, own, 0, 99));
            Yards.due("told(5)", 0, x.told(5));
            Yards.due("run", 1, x.run(2, own, 0, 99));
            Yards.due("told(5)", 0, x.told(5));
            Yards.due("run", 6, x.run(3, own, 0, 99));
            Yards.due("told(5)", own - 1, x.told(5));
        }
    }

    private static void saidAsFarAsThereIs() {
        Yards.sentence("said: Number i of WHAT IS SAID; 0 if there is none such");
        FreightYards x = Yards.fresh("said");
        for (int i : new int[] {-1, 0, 1, 299, 300, MOST, LEAST}) {
            Yards.due("said(" + i + ")", 0, x.said(i));
        }
        Yards.loaded(x, "to m() { say 5; say 6; }");
        x.run(0, 0, 0, 9);
        Yards.due("said(0)", 5, x.said(0));
        Yards.due("said(1)", 6, x.said(1));
        for (int i : new int[] {-1, 2, 3, 299, 300, MOST, LEAST}) {
            Yards.due("said(" + i + ")", 0, x.said(i));
        }
    }

    private static void stateOfNoTrackOrNumber() {
        Yards.sentence("state: true; false if there is no such track or number (0 .. 17)");
        FreightYards x = rich("state");
        String before = Yards.all(x);
        for (int n : new int[] {-1, 8, 9, MOST, LEAST}) {
            for (int what : new int[] {-1, 0, 17, 18, MOST, LEAST}) {
                Yards.due("state(" + n + ", " + what + ")", false, x.state(n, what));
                Yards.unchanged("state(" + n + ", " + what + ")", before, x);
            }
        }
        for (int what : new int[] {-1, 18, 19, 35, 36, 37, MOST, LEAST}) {
            for (int n = 0; n < 8; n++) {
                Yards.due("state(" + n + ", " + what + ")", false, x.state(n, what));
                Yards.unchanged("state(" + n + ", " + what + ")", before, x);
            }
        }
        for (int n = 0; n < 8; n++) {
            Yards.due("state", true, x.state(n, 0));
            Yards.due("state", true, x.state(n, 17));
            Yards.due("track(" + n + ", 0)", 17, x.track(n, 0));
        }
    }

    private static void stateTakesWhatIsNotBelow() {
        Yards.sentence("if its ROW is not BELOW a ROW of that, the track has NOTHING then");
        String below = " 0 2 5 10 13 14 17 ";
        for (int what = 0; what < 18; what++) {
            FreightYards x = Yards.fresh("state " + what);
            Yards.loaded(x, "to m() { var BOX[] r = new REEFER[3]; lay(4, r); lay(6, r); }");
            x.run(0, 0, 0, 99);
            Yards.due("state", true, x.state(4, what));
            boolean stays = below.contains(" " + what + " ");
            Yards.due("track(4, 0)", what, x.track(4, 0));
            Yards.due("track(4, 1)", stays ? 10 : NONE, x.track(4, 1));
            Yards.due("track(4, 2)", stays ? 3 : 0, x.track(4, 2));
            Yards.due("track(4, 3)", stays ? 4 : NONE, x.track(4, 3));
            Yards.due("the other track keeps it", 10, x.track(6, 1));
            Yards.due("track(6, 3)", stays ? 4 : 6, x.track(6, 3));
            x.state(4, 0);
            Yards.due("track(4, 1) stays", stays ? 10 : NONE, x.track(4, 1));
        }
    }

    private static void tickSoMany() {
        Yards.sentence("tick: So many TICKS; NONE, and nothing happens, if n is not 0 .. 200");
        FreightYards x = rich("tick");
        String before = Yards.all(x);
        for (int n : new int[] {-1, 201, -200, 1000, MOST, LEAST}) {
            refused(x, "tick(" + n + ")", x.tick(n), before);
        }
        Yards.due("tick(0)", 0, x.tick(0));
        Yards.unchanged("tick(0)", before, x);
        Yards.due("tick(1)", 0, x.tick(1));
        Yards.due("count(5)", 5, x.count(5));
        Yards.due("tick(200)", 0, x.tick(200));
        Yards.due("count(5)", 205, x.count(5));
    }

    private static void vehicleOfNoSuch() {
        Yards.sentence("vehicle: NONE for another what, or if there is none such");
        FreightYards x = rich("vehicle");
        Yards.due("count(1)", 3, x.count(1));
        for (int what = -1; what <= 10; what++) {
            for (int v : new int[] {-1, 3, 4, 299, 300, 301, MOST, LEAST}) {
                Yards.due("vehicle(" + v + ", " + what + ")", NONE, x.vehicle(v, what));
            }
        }
        for (int v = 0; v < 3; v++) {
            for (int what : new int[] {-1, 10, 11, MOST, LEAST}) {
                Yards.due("vehicle(" + v + ", " + what + ")", NONE, x.vehicle(v, what));
            }
        }
    }

    private static void vehicleHasNone() {
        Yards.sentence("Of VEHICLE v: .. 2: the NUMBER of what is BEHIND it (NONE) ..; 4 GRIP, 5 PULL, 6 LOAD, 7 CHILL, 8 REACH, "
            + "9 FUEL (0 if it has none)");
        FreightYards x = Yards.fresh("fields");
        Yards.loaded(x, TEXT);
        x.run(0, 0, 0, 2000);
        int[][] due = {{4, 5, NONE, 49, 20, 300, 0, 0, 0, 9}, {10, 0, 0, 25, 0, 0, 7, -2, 0, 0},
            {12, 0, NONE, 19, 0, 0, 0, 0, 4, 0}};
        for (int v = 0; v < due.length; v++) {
            for (int what = 0; what <= 9; what++) {
                Yards.due("vehicle(" + v + ", " + what + ")", due[v][what], x.vehicle(v, what));
            }
        }
    }

    private static void trackOfNoSuch() {
        Yards.sentence("track: NONE for another what, or if there is none such");
        FreightYards x = rich("track");
        for (int what = -1; what <= 4; what++) {
            for (int n : new int[] {-1, 8, 9, MOST, LEAST}) {
                Yards.due("track(" + n + ", " + what + ")", NONE, x.track(n, what));
            }
        }
        for (int n = 0; n < 8; n++) {
            for (int what : new int[] {-1, 4, 5, MOST, LEAST}) {
                Yards.due("track(" + n + ", " + what + ")", NONE, x.track(n, what));
            }
        }
        Yards.sentence("1: what its ROW is of (NONE: NOTHING), 2: how many places (0)");
        int[] of = {-1, -1, 0, 0, -1, 0, 5, -1};
        int[] places = {0, 0, 3, 3, 0, 3, 1, 0};
        x.tick(5);
        for (int n = 0; n < 8; n++) {
            Yards.due("track(" + n + ", 1)", of[n], x.track(n, 1));
            Yards.due("track(" + n + ", 2)", places[n], x.track(n, 2));
        }
    }

    private static void trackWithTheSameRow() {
        Yards.sentence("3: the least track that has the same ROW (NONE: NOTHING)");
        FreightYards x = Yards.fresh("rows of one sort and one row");
        Yards.loaded(x, "to m() { var BOX[] r = new BOX[2]; var BOX[] s = new BOX[2]; lay(7, r); lay(3, r); lay(1, s); "
            + "lay(6, s); lay(2, new BOX[2]); } to n() { lay(0, track(7)); } to o() { lay(0, none); lay(3, none); }");
        x.run(0, 0, 0, 99);
        int[][] due = {{-1, 1, 2, 3, -1, -1, 1, 3}, {0, 1, 2, 0, -1, -1, 1, 0}, {-1, 1, 2, -1, -1, -1, 1, 7}};
        for (int p = 0; p < 3; p++) {
            Yards.due("run", 0, p == 0 ? 0 : x.run(p, 0, 0, 99));
            for (int n = 0; n < 8; n++) {
                Yards.due("track(" + n + ", 3)", due[p][n], x.track(n, 3));
            }
        }
    }

    private static void placeOfNoSuch() {
        Yards.sentence("place: The NUMBER of the VEHICLE at place i of track n's ROW; NONE if there is none");
        FreightYards x = rich("place");
        int[] due = {0, NONE, 1};
        for (int i = 0; i < 3; i++) {
            Yards.due("place(2, " + i + ")", due[i], x.place(2, i));
        }
        for (int i : new int[] {-1, 3, 4, 39, 40, MOST, LEAST}) {
            Yards.due("place(2, " + i + ")", NONE, x.place(2, i));
        }
        for (int n : new int[] {0, 1, 4, 6, 7, -1, 8, MOST, LEAST}) {
            for (int i : new int[] {-1, 0, 1, MOST, LEAST}) {
                Yards.due("place(" + n + ", " + i + ")", NONE, x.place(n, i));
            }
        }
        x.load(0);
        Yards.loaded(x, "to m() { lay(1, new BOX[0]); var BOX[] r = new BOX[40]; r[39] = new BOX(); lay(4, r); }");
        x.run(0, 0, 0, 99);
        Yards.due("place(1, 0)", NONE, x.place(1, 0));
        Yards.due("place(4, 39)", 3, x.place(4, 39));
        Yards.due("place(4, 40)", NONE, x.place(4, 40));
    }

    private static void trainOfNoSuch() {
        Yards.sentence("train: NONE for another what, or if there is none such");
        FreightYards x = rich("train");
        Yards.due("count(4)", 2, x.count(4));
        for (int what = -1; what <= 5; what++) {
            for (int t : new int[] {-1, 2, 3, 9, 10, 11, MOST, LEAST}) {
                Yards.due("train(" + t + ", " + what + ")", NONE, x.train(t, what));
            }
        }
        for (int t = 0; t < 2; t++) {
            for (int what : new int[] {-1, 5, 6, MOST, LEAST}) {
                Yards.due("train(" + t + ", " + what + ")", NONE, x.train(t, what));
            }
        }
    }

    private static void trainMassAsItIsNow() {
        Yards.sentence("2: miles (0 when it is THERE or STANDS), 3: its latest SPEED, 4: its MASS as it is now");
        FreightYards x = Yards.fresh("mass");
        Yards.loaded(x, "to m() { var VEHICLE[] r = new VEHICLE[2]; r[0] = new DIESEL(); lay(0, r); send(r, 1, 6); } "
            + "to f(INT k) { track(0)[0] as DIESEL.fuel = k; } to b() { track(0)[1] = new BOX(); } to n() { track(0)[0] = none; }");
        x.run(0, 0, 0, 99);
        Yards.due("train(0, 4)", 45, x.train(0, 4));
        Yards.due("train(0, 3)", 0, x.train(0, 3));
        x.run(1, 110, 0, 99);
        Yards.due("train(0, 4)", 100, x.train(0, 4));
        Yards.due("train(0, 3)", 0, x.train(0, 3));
        x.run(2, 0, 0, 99);
        Yards.due("train(0, 4)", 115, x.train(0, 4));
        x.tick(1);
        Yards.due("train(0, 2)", 4, x.train(0, 2));
        Yards.due("train(0, 3)", 2, x.train(0, 3));
        Yards.due("train(0, 4)", 114, x.train(0, 4));
        x.run(3, 0, 0, 99);
        Yards.due("train(0, 3)", 2, x.train(0, 3));
        Yards.due("train(0, 4)", 15, x.train(0, 4));
        x.tick(1);
        Yards.due("train(0, 2)", 4, x.train(0, 2));
        Yards.due("train(0, 3)", 0, x.train(0, 3));
        x = Yards.fresh("miles that would be below 0");
        Yards.loaded(x, "to m() { var DIESEL[] r = new DIESEL[1]; r[0] = new DIESEL(); send(r, 1, 6); send(r, 2, 6); }");
        x.run(0, 0, 0, 99);
        x.state(2, 5);
        Yards.due("tick(2)", 2, x.tick(2));
        for (int t = 0; t < 2; t++) {
            Yards.due("train(" + t + ", 0)", t + 1, x.train(t, 0));
            Yards.due("train(" + t + ", 2)", 0, x.train(t, 2));
            Yards.due("train(" + t + ", 3)", 5, x.train(t, 3));
        }
    }

    private static void countOfNoSuch() {
        Yards.sentence("count: NONE for another what");
        for (FreightYards x : new FreightYards[] {Yards.fresh("new"), rich("count")}) {
            for (int what : new int[] {-1, 9, 10, MOST, LEAST}) {
                Yards.due("count(" + what + ")", NONE, x.count(what));
            }
        }
    }

    private static void countsAll() {
        Yards.sentence("What 0: PROCS, 1: VEHICLES, 2: ROWS, 3: places of these, 4: TRAINS, 5: the CLOCK, 6: FAULTS of RUNS so far "
            + "(also those that were caught), 7: WHAT IS SAID, 8: bytes of the tape");
        FreightYards x = rich("count");
        int[] due = {PROCS, 3, 2, 4, 2, 4, 1, 4, 20};
        for (int what = 0; what < due.length; what++) {
            Yards.due("count(" + what + ")", due[what], x.count(what));
        }
        x.load(0);
        Yards.due("count(8)", 0, x.count(8));
        Yards.due("the text before stays", PROCS, x.count(0));
        Yards.loaded(x, "to m() { fail 1; } to n() { try { fail 1; } catch (e) { } } to o() { while (1) { } }");
        Yards.due("count(0)", 3, x.count(0));
        x.run(0, 0, 0, 99);
        Yards.due("a fault that came out", 2, x.count(6));
        x.run(1, 0, 0, 99);
        Yards.due("a fault that was caught", 3, x.count(6));
        x.run(2, 0, 0, 99);
        Yards.due("an end is no fault", 3, x.count(6));
        Yards.load(x, "to");
        Yards.due("a text's fault is none of a run", 3, x.count(6));
    }

    private static void whatIsRefusedChangesNothing() {
        Yards.sentence("What is refused (false, NONE) changes nothing but what is told");
        FreightYards x = rich("all calls");
        while (x.count(8) < 3000) {
            x.feed(0, 0, 0, 0, 0);
        }
        String before = Yards.all(x);
        refused(x, "feed", x.feed(1, 2, 3, 4, 5), before);
        refused(x, "load", x.load(3001), before);
        refused(x, "load", x.load(-1), before);
        refused(x, "fault", x.fault(2), before);
        refused(x, "run", x.run(PROCS, 0, 0, 1), before);
        refused(x, "run", x.run(1, 0, 0, 1), before);
        refused(x, "run", x.run(0, 0, 0, 2001), before);
        refused(x, "told", x.told(7), before);
        refused(x, "tick", x.tick(201), before);
        refused(x, "vehicle", x.vehicle(3, 0), before);
        refused(x, "track", x.track(8, 0), before);
        refused(x, "place", x.place(2, 3), before);
        refused(x, "train", x.train(2, 0), before);
        refused(x, "count", x.count(9), before);
        Yards.due("state", false, x.state(8, 0));
        Yards.due("state", false, x.state(2, 18));
        Yards.due("said", 0, x.said(4));
        Yards.unchanged("state and said", before, x);
    }
}
