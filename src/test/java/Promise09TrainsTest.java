/** Promises 9 and 13: ticks, and what is told of trains; and send and now of the language. */
public final class Promise09TrainsTest {
    public static void main(String[] args) {
        refuses();
        sends();
        countsTheClock();
        goes();
        isHeldByGrip();
        burns();
        comesToStand();
        comesThereAsTheTrackStatesThen();
        keepsOrder();
        countsTwice();
        standsStillWithoutPull();
        wraps();
        Yards.end();
    }

    private static void refuses() {
        FreightYards x = Yards.fresh("no such n");
        Yards.due("tick(-1)", -1, x.tick(-1));
        Yards.due("tick(201)", -1, x.tick(201));
        Yards.due("tick(max)", -1, x.tick(Integer.MAX_VALUE));
        Yards.due("tick(min)", -1, x.tick(Integer.MIN_VALUE));
        Yards.due("count(5)", 0, x.count(5));
        Yards.due("tick(0)", 0, x.tick(0));
        Yards.due("count(5)", 0, x.count(5));
        Yards.due("tick(200)", 0, x.tick(200));
        Yards.due("count(5)", 200, x.count(5));
        Yards.due("tick(1)", 0, x.tick(1));
        Yards.due("count(5)", 201, x.count(5));
    }

    private static void sends() {
        FreightYards x = Yards.fresh("send");
        Yards.loaded(x, "to m(INT n, INT k): INT { return send(new BOX[2], n, k); }");
        sent(x, -1, 5, -1);
        sent(x, 8, 5, -1);
        sent(x, 0, 0, -1);
        sent(x, 0, -5, -1);
        sent(x, 0, 1001, -1);
        Yards.due("count(4)", 0, x.count(4));
        for (int t = 0; t < 10; t++) {
            sent(x, t % 8, t == 0 ? 1000 : t, t);
        }
        sent(x, 0, 5, -1);
        Yards.due("count(4)", 10, x.count(4));
        Yards.due("train(0, 2)", 1000, x.train(0, 2));
        Yards.due("train(9, 0)", 0, x.train(9, 0));
        Yards.due("train(9, 1)", 1, x.train(9, 1));
        Yards.due("train(9, 2)", 9, x.train(9, 2));
        Yards.due("train(9, 3)", 0, x.train(9, 3));
        Yards.due("train(9, 4)", 0, x.train(9, 4));
        Yards.due("train(9, 5)", -1, x.train(9, 5));
        Yards.due("train(9, -1)", -1, x.train(9, -1));
        Yards.due("train(10, 0)", -1, x.train(10, 0));
        Yards.due("train(-1, 0)", -1, x.train(-1, 0));
        Yards.due("train(max, min)", -1, x.train(Integer.MAX_VALUE, Integer.MIN_VALUE));
    }

    private static void sent(FreightYards x, int n, int k, int due) {
        Yards.due("run", 0, x.run(0, n, k, 50));
        Yards.due("send to " + n + ", " + k + " miles", due, x.told(1));
    }

    private static void countsTheClock() {
        FreightYards x = Yards.fresh("now");
        Yards.loaded(x, "to m(): INT { return now(); }");
        x.run(0, 0, 0, 50);
        Yards.due("told(1)", 0, x.told(1));
        x.tick(17);
        x.run(0, 0, 0, 50);
        Yards.due("told(1)", 17, x.told(1));
    }

    private static FreightYards withTrain(String name, String made, int track, int miles) {
        FreightYards x = Yards.fresh(name);
        Yards.loaded(x, "to m(INT n, INT k): INT { " + made + " return send(r, n, k); }");
        Yards.due("run", 0, x.run(0, track, miles, 500));
        Yards.due("told(1)", 0, x.told(1));
        return x;
    }

    private static void train(FreightYards x, int t, int state, int miles, int speed, int mass) {
        Yards.due("train(" + t + ", 0)", state, x.train(t, 0));
        Yards.due("train(" + t + ", 2)", miles, x.train(t, 2));
        Yards.due("train(" + t + ", 3)", speed, x.train(t, 3));
        Yards.due("train(" + t + ", 4)", mass, x.train(t, 4));
    }

    private static void goes() {
        // mass 45 + 15 + 40 = 100, pull 300, grip 20: at most 5, speed 3
        FreightYards x = withTrain("a diesel and a box", "var VEHICLE[] r = new VEHICLE[3]; r[0] = new DIESEL(); "
            + "var BOX b = new BOX(); b.load = 40; r[2] = b;", 4, 7);
        train(x, 0, 0, 7, 0, 100);
        Yards.due("train(0, 1)", 4, x.train(0, 1));
        Yards.due("tick(1)", 0, x.tick(1));
        train(x, 0, 0, 4, 3, 100);
        Yards.due("tick(1)", 0, x.tick(1));
        train(x, 0, 0, 1, 3, 100);
        Yards.due("track(4, 1)", -1, x.track(4, 1));
        Yards.due("tick(1)", 1, x.tick(1));
        train(x, 0, 1, 0, 3, 100);
        Yards.due("track(4, 1)", 0, x.track(4, 1));
        Yards.due("track(4, 2)", 3, x.track(4, 2));
        Yards.due("place(4, 0)", 0, x.place(4, 0));
        Yards.due("tick(5)", 0, x.tick(5));
        train(x, 0, 1, 0, 3, 100);
        x = withTrain("at the very mile", "var VEHICLE[] r = new VEHICLE[3]; r[0] = new DIESEL(); "
            + "var BOX b = new BOX(); b.load = 40; r[2] = b;", 4, 6);
        Yards.due("tick(2)", 1, x.tick(2));
        train(x, 0, 1, 0, 3, 100);
    }

    private static void isHeldByGrip() {
        // pull 600, mass 90: 6; grip 40: 9 at most
        FreightYards x = withTrain("two diesels", "var DIESEL[] r = new DIESEL[2]; r[0] = new DIESEL(); "
            + "r[1] = new DIESEL();", 0, 100);
        x.tick(1);
        train(x, 0, 0, 94, 6, 90);
        // pull 300, mass 45: 6; grip 20: 5 at most
        x = withTrain("one diesel", "var DIESEL[] r = new DIESEL[2]; r[0] = new DIESEL();", 0, 100);
        x.tick(1);
        train(x, 0, 0, 95, 5, 45);
        // pull 150, mass 25: 6; grip 17: 4 at most
        x = withTrain("one shunter", "var DIESEL[] r = new DIESEL[2]; r[0] = new SHUNTER();", 0, 100);
        x.tick(1);
        train(x, 0, 0, 96, 4, 25);
        // pull 150, mass 42: 3; grip 17 + 25 = 42: 9 at most
        x = withTrain("a shunter and a van", "var VEHICLE[] r = new VEHICLE[2]; r[0] = new SHUNTER(); r[1] = new VAN();",
            0, 100);
        x.tick(1);
        train(x, 0, 0, 97, 3, 42);
    }

    private static void burns() {
        // mass 45 + 5 = 50, pull 100, speed 2, and 1 of fuel less each tick
        FreightYards x = withTrain("steam", "var VEHICLE[] r = new VEHICLE[3]; var STEAM s = new STEAM(); s.fuel = 5; "
            + "r[0] = s; var REEFER f = new REEFER(); f.load = -18; f.fuel = 1; r[1] = f; ", 0, 1000);
        // the reefer weighs 15 - 18 + 1 + 3 = 1
        train(x, 0, 0, 1000, 0, 51);
        x.tick(1);
        train(x, 0, 0, 999, 1, 49);
        Yards.due("vehicle(0, 9)", 4, x.vehicle(0, 9));
        Yards.due("vehicle(1, 9)", 0, x.vehicle(1, 9));
        x.tick(1);
        // pull 80, mass 49: 1
        train(x, 0, 0, 998, 1, 48);
        Yards.due("vehicle(1, 9)", 0, x.vehicle(1, 9));
        x.tick(100);
        // with 2 of fuel it pulls 40 of 47, and stands still
        train(x, 0, 0, 997, 0, 47);
        Yards.due("vehicle(0, 9)", 2, x.vehicle(0, 9));
        Yards.due("vehicle(0, 5)", 40, x.vehicle(0, 5));
    }

    private static void comesToStand() {
        FreightYards x = withTrain("the track states boxes", "var VEHICLE[] r = new VEHICLE[1]; r[0] = new DIESEL();",
            3, 5);
        x.state(3, 5);
        Yards.due("tick(1)", 1, x.tick(1));
        train(x, 0, 2, 0, 5, 45);
        Yards.due("track(3, 1)", -1, x.track(3, 1));
        x.state(3, 0);
        Yards.due("tick(9): for good", 0, x.tick(9));
        train(x, 0, 2, 0, 5, 45);
        Yards.due("track(3, 1)", -1, x.track(3, 1));
        x = withTrain("what it is of counts, not what is there", "var VEHICLE[] r = new VEHICLE[1]; r[0] = new DIESEL();",
            3, 5);
        x.state(3, 4);
        x.tick(1);
        train(x, 0, 2, 0, 5, 45);
    }

    private static void comesThereAsTheTrackStatesThen() {
        FreightYards x = withTrain("a row that fits and one that was there", "var DIESEL[] r = new DIESEL[1]; "
            + "r[0] = new DIESEL(); lay(3, new STEAM[4]);", 3, 6);
        x.state(3, 15);
        Yards.due("track(3, 1)", 3, x.track(3, 1));
        Yards.due("tick(1)", 0, x.tick(1));
        x.state(3, 17);
        Yards.due("tick(1)", 1, x.tick(1));
        Yards.due("track(3, 1)", 4, x.track(3, 1));
        Yards.due("track(3, 2)", 1, x.track(3, 2));
    }

    private static void keepsOrder() {
        FreightYards x = Yards.fresh("two trains to one track at one tick");
        Yards.loaded(x, "to m(): INT { var DIESEL[] r = new DIESEL[1]; r[0] = new DIESEL(); var DIESEL[] s = new DIESEL[2]; "
            + "s[0] = new DIESEL(); send(r, 2, 4); send(s, 2, 4); return send(s, 2, 3); }");
        x.run(0, 0, 0, 500);
        Yards.due("told(1)", 2, x.told(1));
        Yards.due("tick(1)", 3, x.tick(1));
        Yards.due("track(2, 2)", 2, x.track(2, 2));
        x = Yards.fresh("one row as two trains");
        // the first burns 1 of 3: pull 60 of 48 is 1, then 40 of 47 is 0
        Yards.loaded(x, "to m() { var STEAM[] r = new STEAM[1]; r[0] = new STEAM(); r[0].fuel = 3; send(r, 2, 9); "
            + "send(r, 3, 9); }");
        x.run(0, 0, 0, 500);
        Yards.due("tick(1)", 0, x.tick(1));
        train(x, 0, 0, 8, 1, 47);
        train(x, 1, 0, 9, 0, 47);
    }

    private static void countsTwice() {
        // one steam engine at two places: mass 2 * 65, pull 2 * 400, grip 30: at most 7; 800 / 130 = 6
        FreightYards x = withTrain("one at two places", "var STEAM[] r = new STEAM[3]; r[0] = new STEAM(); "
            + "r[0].fuel = 20; r[2] = r[0];", 0, 100);
        train(x, 0, 0, 100, 0, 130);
        x.tick(1);
        train(x, 0, 0, 94, 6, 126);
        Yards.due("vehicle(0, 9)", 18, x.vehicle(0, 9));
    }

    private static void standsStillWithoutPull() {
        FreightYards x = withTrain("an empty row", "var VEHICLE[] r = new VEHICLE[3];", 0, 1);
        x.tick(50);
        train(x, 0, 0, 1, 0, 0);
        x = withTrain("mass below 1", "var VEHICLE[] r = new VEHICLE[3]; var DIESEL d = new DIESEL(); d.fuel = -90; "
            + "r[0] = d;", 0, 1);
        train(x, 0, 0, 1, 0, 0);
        Yards.due("tick(1)", 0, x.tick(1));
        train(x, 0, 0, 1, 0, 0);
        x = withTrain("mass 1", "var VEHICLE[] r = new VEHICLE[3]; var DIESEL d = new DIESEL(); d.fuel = -88; "
            + "r[0] = d;", 0, 9);
        Yards.due("tick(1)", 0, x.tick(1));
        train(x, 0, 0, 4, 5, 1);
        Yards.due("fuel below 0 stays", -88, x.vehicle(0, 9));
        x = withTrain("pull below 0", "var STEAM[] r = new STEAM[3]; r[0] = new STEAM(); r[0].fuel = -2;", 0, 9);
        Yards.due("tick(1)", 0, x.tick(1));
        train(x, 0, 0, 9, 0, 43);
        Yards.due("fuel stays", -2, x.vehicle(0, 9));
    }

    private static void wraps() {
        FreightYards x = withTrain("mass that wraps", "var BOX[] r = new BOX[3]; r[0] = new BOX(); "
            + "r[0].load = 999999999 * 2; r[1] = r[0];", 0, 9);
        train(x, 0, 0, 9, 0, 2 * (15 + 999999999 * 2));
        x.tick(1);
        train(x, 0, 0, 9, 0, 2 * (15 + 999999999 * 2));
    }
}
