/** Promises 3 and 4: what load() answers and leaves, and what fault() tells of it. */
public final class Promise03LoadTest {
    public static void main(String[] args) {
        refusesWhatTheTapeLacks();
        emptiesTheTape();
        keepsTheTextBefore();
        keepsWhatIsInTheYards();
        countsProcs();
        tellsOnlyTwoThings();
        staysRightAfterFaults();
        readsNoByteBehindTheText();
        Yards.end();
    }

    private static void refusesWhatTheTapeLacks() {
        FreightYards x = Yards.fresh("refused");
        Yards.due("load(1)", -1, x.load(1));
        Yards.due("load(-1)", -1, x.load(-1));
        Yards.due("load(min)", -1, x.load(Integer.MIN_VALUE));
        Yards.due("load(max)", -1, x.load(Integer.MAX_VALUE));
        Yards.due("fault(0)", 0, x.fault(0));
        Yards.due("fault(1)", -1, x.fault(1));
        Yards.feed(x, "to m() { foo(); }   ");
        Yards.due("load(21)", -1, x.load(21));
        Yards.due("count(8)", 20, x.count(8));
        Yards.due("load(20)", 0, x.load(20));
        Yards.due("fault(0)", 2, x.fault(0));
        Yards.due("load(1) of an empty tape", -1, x.load(1));
        Yards.due("fault(0) stays", 2, x.fault(0));
        Yards.due("fault(1) stays", 9, x.fault(1));
    }

    private static void emptiesTheTape() {
        FreightYards x = Yards.fresh("tape");
        Yards.due("load(0) of an empty tape", 0, x.load(0));
        Yards.due("fault(0)", 1, x.fault(0));
        Yards.due("fault(1)", 0, x.fault(1));
        Yards.feed(x, "to m() { } to n() {}");
        Yards.due("load(10)", 1, x.load(10));
        Yards.due("count(8)", 0, x.count(8));
        Yards.due("count(0)", 1, x.count(0));
        Yards.feed(x, "to m() { } to n() {}");
        Yards.due("load(0)", 0, x.load(0));
        Yards.due("count(8)", 0, x.count(8));
        Yards.due("fault(1)", 0, x.fault(1));
        Yards.due("count(0)", 1, x.count(0));
    }

    private static void keepsTheTextBefore() {
        FreightYards x = Yards.fresh("text before");
        Yards.loaded(x, "to a(): INT { return 5; } to b(): INT { return 6; }");
        Yards.due("load of a faulty text", 0, Yards.load(x, "to c(): INT { return 7; } to d( { return 8; }"));
        Yards.due("fault(0)", 1, x.fault(0));
        Yards.due("fault(1)", 32, x.fault(1));
        Yards.due("count(0)", 2, x.count(0));
        Yards.due("run(1)", 0, x.run(1, 0, 0, 9));
        Yards.due("told(1)", 6, x.told(1));
        Yards.due("load", 1, Yards.load(x, "to e(): INT { return 9; }"));
        Yards.due("fault(0)", 0, x.fault(0));
        Yards.due("fault(1)", -1, x.fault(1));
        Yards.due("run(1)", -1, x.run(1, 0, 0, 9));
        Yards.due("told(1) of the run before", 6, x.told(1));
        Yards.due("run(0)", 0, x.run(0, 0, 0, 9));
        Yards.due("told(1)", 9, x.told(1));
    }

    private static void keepsWhatIsInTheYards() {
        FreightYards x = Yards.fresh("yards stay");
        Yards.loaded(x, "to m() { var BOX[] r = new BOX[2]; r[1] = new BOX(); lay(3, r); send(r, 4, 9); say 8; }");
        x.run(0, 0, 0, 99);
        x.tick(2);
        Yards.loaded(x, "to n(): INT { return track(3)[1] == track(3)[1]; }");
        Yards.due("count(1)", 1, x.count(1));
        Yards.due("count(2)", 1, x.count(2));
        Yards.due("count(3)", 2, x.count(3));
        Yards.due("count(4)", 1, x.count(4));
        Yards.due("count(5)", 2, x.count(5));
        Yards.due("count(7)", 1, x.count(7));
        Yards.due("place(3, 1)", 0, x.place(3, 1));
        Yards.due("train(0, 2)", 9, x.train(0, 2));
        Yards.due("run", 0, x.run(0, 0, 0, 99));
        Yards.due("told(1)", 1, x.told(1));
    }

    private static void countsProcs() {
        StringBuilder text = new StringBuilder();
        for (int i = 0; i < 12; i++) {
            text.append("to p").append(i).append("(): INT { return ").append(i).append("; } ");
        }
        FreightYards x = Yards.fresh("twelve procs");
        Yards.due("load", 12, Yards.load(x, text.toString()));
        Yards.due("count(0)", 12, x.count(0));
        for (int i = 0; i < 12; i++) {
            Yards.due("run", 0, x.run(i, 0, 0, 5));
            Yards.due("told(1)", i, x.told(1));
        }
        Yards.due("run(12)", -1, x.run(12, 0, 0, 5));
    }

    private static void tellsOnlyTwoThings() {
        FreightYards x = Yards.fresh("fault");
        Yards.load(x, "to m() { x = 1; }");
        Yards.due("fault(0)", 2, x.fault(0));
        Yards.due("fault(1)", 9, x.fault(1));
        Yards.due("fault(2)", -1, x.fault(2));
        Yards.due("fault(-1)", -1, x.fault(-1));
        Yards.due("fault(max)", -1, x.fault(Integer.MAX_VALUE));
    }

    private static void staysRightAfterFaults() {
        FreightYards x = Yards.fresh("the five after a fault at a proc's name");
        Yards.load(x, "to 5(BOX b): BOX[] { }");
        Yards.load(x, "to now(BOX b): BOX[] { }");
        Yards.due("load", 1, Yards.load(x, "to m(): VEHICLE[] { return track(now()); }"));
    }

    private static void cut(String text, int n, int fault, int place) {
        FreightYards x = Yards.fresh(text + " up to " + n);
        Yards.feed(x, text);
        Yards.due("load", 0, x.load(n));
        Yards.due("fault(0)", fault, x.fault(0));
        Yards.due("fault(1)", place, x.fault(1));
    }

    private static void readsNoByteBehindTheText() {
        cut("to m(){say 12a;}", 13, 1, 13);
        cut("to m(){say 1==2;}", 13, 1, 12);
        cut("to m(INT x){x=1;}", 9, 1, 9);
        cut("to m(VANS s){}", 8, 1, 8);
        cut("to m(VANS s){}", 9, 1, 5);
        cut("to m(){foo();}", 9, 2, 7);
        cut("to m(INT a, BOX b)", 15, 1, 15);
        cut("to m(INT a) {    }", 14, 1, 14);
        FreightYards x = Yards.fresh("a longer text before");
        Yards.loaded(x, "to m() { say 1; say 2; say 3; say 4; } to n() { }");
        Yards.due("load", 1, Yards.load(x, "to m(){}"));
    }
}
