/** Promises 8, 11 and 12: tracks, what they state and have; and track, lay and hump of the language. */
public final class Promise08TracksTest {
    public static void main(String[] args) {
        refuses();
        states();
        lays();
        reads();
        placesAreTold();
        humps();
        Yards.end();
    }

    private static void refuses() {
        FreightYards x = Yards.fresh("no such track or number");
        Yards.due("state(-1, 0)", false, x.state(-1, 0));
        Yards.due("state(8, 0)", false, x.state(8, 0));
        Yards.due("state(0, -1)", false, x.state(0, -1));
        Yards.due("state(0, 18)", false, x.state(0, 18));
        Yards.due("state(0, 36)", false, x.state(0, 36));
        Yards.due("state(min, max)", false, x.state(Integer.MIN_VALUE, Integer.MAX_VALUE));
        Yards.due("track(0, 0)", 0, x.track(0, 0));
        for (int n = 0; n < 8; n++) {
            for (int what = 0; what < 18; what++) {
                Yards.due("state", true, x.state(n, what));
                Yards.due("track(n, 0)", what, x.track(n, 0));
            }
        }
        Yards.due("track(-1, 0)", -1, x.track(-1, 0));
        Yards.due("track(8, 0)", -1, x.track(8, 0));
        Yards.due("track(0, 4)", -1, x.track(0, 4));
        Yards.due("track(0, -1)", -1, x.track(0, -1));
        Yards.due("track(max, min)", -1, x.track(Integer.MAX_VALUE, Integer.MIN_VALUE));
        Yards.due("place(-1, 0)", -1, x.place(-1, 0));
        Yards.due("place(8, 0)", -1, x.place(8, 0));
    }

    private static void states() {
        FreightYards x = Yards.fresh("stating what the row is not");
        Yards.loaded(x, "to m() { var REEFER[] r = new REEFER[3]; lay(0, r); lay(1, r); lay(2, new BOX[2]); }");
        x.run(0, 0, 0, 50);
        for (int fit : new int[] {0, 2, 5, 10, 13, 14, 17}) {
            Yards.due("state(0, " + fit + ")", true, x.state(0, fit));
            Yards.due("track(0, 1)", 10, x.track(0, 1));
            Yards.due("track(0, 2)", 3, x.track(0, 2));
        }
        Yards.due("state(2, 10)", true, x.state(2, 10));
        Yards.due("track(2, 1): boxes are not all reefers", -1, x.track(2, 1));
        Yards.due("state(0, 15)", true, x.state(0, 15));
        Yards.due("track(0, 0)", 15, x.track(0, 0));
        Yards.due("track(0, 1)", -1, x.track(0, 1));
        Yards.due("track(0, 2)", 0, x.track(0, 2));
        Yards.due("track(0, 3)", -1, x.track(0, 3));
        Yards.due("track(1, 3)", 1, x.track(1, 3));
        Yards.due("state back", true, x.state(0, 0));
        Yards.due("track(0, 1) stays empty", -1, x.track(0, 1));
    }

    private static void lays() {
        FreightYards x = Yards.fresh("lay");
        Yards.loaded(x, "to m(INT n, INT k): INT { if (k == 0) { return lay(n, none); } "
            + "if (k == 1) { return lay(n, new BOX[1]); } if (k == 2) { return lay(n, new STEAM[2]); } "
            + "return lay(n, new VEHICLE[3]); }");
        laid(x, 0, 1, 1, 5);
        laid(x, 0, 3, 1, 0);
        laid(x, 0, 0, 1, -1);
        x.state(1, 13);
        laid(x, 1, 1, 1, 5);
        laid(x, 1, 2, 0, 5);
        laid(x, 1, 3, 0, 5);
        laid(x, 1, 0, 1, -1);
        laid(x, 1, 3, 0, -1);
        x.state(7, 15);
        laid(x, 7, 2, 1, 3);
        laid(x, 8, 1, 0, -1);
        laid(x, -1, 1, 0, -1);
        laid(x, 8, 0, 0, -1);
    }

    private static void laid(FreightYards x, int n, int k, int due, int of) {
        Yards.due("run", 0, x.run(0, n, k, 50));
        Yards.due("lay on " + n + " of " + k, due, x.told(1));
        Yards.due("track(" + n + ", 1)", of, x.track(n, 1));
    }

    private static void reads() {
        FreightYards x = Yards.fresh("track of the language");
        Yards.loaded(x, "to m() { var BOX[] r = new BOX[4]; lay(5, r); lay(3, r); lay(6, new BOX[4]); } "
            + "to t(INT n): VEHICLE[] { return track(n); } to s(): INT { return track(3) == track(5); } "
            + "to d(): INT { return track(3) == track(6); }");
        x.run(0, 0, 0, 50);
        x.run(1, 5, 0, 50);
        Yards.due("told(2)", 23, x.told(2));
        Yards.due("told(3)", 4, x.told(3));
        for (int none : new int[] {0, -1, 8, Integer.MAX_VALUE, Integer.MIN_VALUE}) {
            Yards.due("run", 0, x.run(1, none, 0, 50));
            Yards.due("told(2)", -1, x.told(2));
        }
        x.run(2, 0, 0, 50);
        Yards.due("the same row", 1, x.told(1));
        x.run(3, 0, 0, 50);
        Yards.due("another row", 0, x.told(1));
        Yards.due("track(5, 3)", 3, x.track(5, 3));
        Yards.due("track(3, 3)", 3, x.track(3, 3));
        Yards.due("track(6, 3)", 6, x.track(6, 3));
        Yards.due("track(0, 3)", -1, x.track(0, 3));
    }

    private static void placesAreTold() {
        FreightYards x = Yards.fresh("place");
        Yards.loaded(x, "to m() { var BOX[] r = new BOX[3]; r[2] = new BOX(); r[0] = new BOX(); lay(2, r); }");
        x.run(0, 0, 0, 50);
        Yards.due("place(2, 0)", 1, x.place(2, 0));
        Yards.due("place(2, 1)", -1, x.place(2, 1));
        Yards.due("place(2, 2)", 0, x.place(2, 2));
        Yards.due("place(2, 3)", -1, x.place(2, 3));
        Yards.due("place(2, -1)", -1, x.place(2, -1));
        Yards.due("place(2, max)", -1, x.place(2, Integer.MAX_VALUE));
        Yards.due("place(0, 0)", -1, x.place(0, 0));
    }

    private static void humps() {
        FreightYards x = Yards.fresh("hump");
        Yards.loaded(x, "to m(): INT { var VEHICLE[] r = new VEHICLE[6]; r[0] = new BOX(); r[1] = new VAN(); "
            + "r[3] = new REEFER(); r[4] = new TANK(); r[5] = new BOX(); var BOX[] s = new BOX[4]; s[1] = new BOX(); "
            + "lay(0, r); lay(1, s); return hump(r, s); } to again(): INT { return hump(track(0), track(1)); } "
            + "to self(): INT { return hump(track(0), track(0)); } "
            + "to full(): INT { var BOX[] t = new BOX[1]; lay(2, t); return hump(track(1), t); } "
            + "to none0(): INT { return hump(new BOX[0], new BOX[0]); }");
        Yards.due("run", 0, x.run(0, 0, 0, 80));
        Yards.due("told(1)", 3, x.told(1));
        int[] from = {-1, 1, -1, -1, 3, -1};
        int[] to = {0, 5, 2, 4};
        for (int i = 0; i < from.length; i++) {
            Yards.due("place(0, " + i + ")", from[i], x.place(0, i));
        }
        for (int i = 0; i < to.length; i++) {
            Yards.due("place(1, " + i + ")", to[i], x.place(1, i));
        }
        x.run(1, 0, 0, 80);
        Yards.due("nothing more fits", 0, x.told(1));
        x.run(2, 0, 0, 80);
        Yards.due("one row", 0, x.told(1));
        Yards.due("place(0, 1)", 1, x.place(0, 1));
        x.run(3, 0, 0, 80);
        Yards.due("room for one", 1, x.told(1));
        Yards.due("place(2, 0)", 0, x.place(2, 0));
        Yards.due("place(1, 0)", -1, x.place(1, 0));
        Yards.due("place(1, 1)", 5, x.place(1, 1));
        x.run(4, 0, 0, 80);
        Yards.due("rows without places", 0, x.told(1));
    }
}
