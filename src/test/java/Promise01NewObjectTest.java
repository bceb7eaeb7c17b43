/** Promise 1: no text, no vehicles, clock 0. */
public final class Promise01NewObjectTest {
    public static void main(String[] args) {
        FreightYards x = Yards.fresh("new");
        Yards.due("NONE", -1, FreightYards.NONE);
        for (int what = 0; what <= 8; what++) {
            Yards.due("count(" + what + ")", 0, x.count(what));
        }
        Yards.due("fault(0)", 0, x.fault(0));
        Yards.due("fault(1)", -1, x.fault(1));
        for (int what = 0; what <= 6; what++) {
            Yards.due("told(" + what + ")", -1, x.told(what));
        }
        Yards.due("said(0)", 0, x.said(0));
        Yards.due("run(0)", -1, x.run(0, 0, 0, 10));
        Yards.due("vehicle(0, 0)", -1, x.vehicle(0, 0));
        Yards.due("train(0, 0)", -1, x.train(0, 0));
        for (int n = 0; n < 8; n++) {
            Yards.due("track(n, 0)", 0, x.track(n, 0));
            Yards.due("track(n, 1)", -1, x.track(n, 1));
            Yards.due("track(n, 2)", 0, x.track(n, 2));
            Yards.due("track(n, 3)", -1, x.track(n, 3));
            Yards.due("place(n, 0)", -1, x.place(n, 0));
        }
        twoObjectsAreApart();
        Yards.end();
    }

    private static void twoObjectsAreApart() {
        FreightYards x = Yards.fresh("two objects");
        FreightYards y = new FreightYards();
        Yards.loaded(x, "to m() { say 4; lay(2, new BOX[3]); }");
        x.run(0, 0, 0, 100);
        x.tick(3);
        x.state(1, 5);
        for (int what = 0; what <= 8; what++) {
            Yards.due("count(" + what + ") of the other", 0, y.count(what));
        }
        Yards.due("track(2, 2) of the other", 0, y.track(2, 2));
        Yards.due("track(1, 0) of the other", 0, y.track(1, 0));
    }
}
