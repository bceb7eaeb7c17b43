/** Promise 10: what is told of a vehicle; and mass, grip and pull of every kind. */
public final class Promise10VehicleTest {
    private static final String[] KINDS = {"VEHICLE", "ENGINE", "WAGON", "STEAM", "DIESEL", "BOX", "TANK", "FLAT",
        "VAN", "SHUNTER", "REEFER", "MILKER", "CRANE"};
    private static final int[] MASS_NEW = {5, 45, 15, 45, 45, 15, 15, 15, 17, 25, 18, 15, 15};
    private static final int[] GRIP = {0, 10, 0, 15, 20, 0, 0, 0, 25, 17, 0, 0, 0};
    private static final int[] PULL_NEW = {0, 0, 0, 0, 300, 0, 0, 0, 0, 150, 0, 0, 0};

    public static void main(String[] args) {
        tellsNewOnes();
        tellsWhatWasSet();
        reckonsMass();
        reckonsPull();
        wraps();
        Yards.end();
    }

    private static void tellsNewOnes() {
        FreightYards x = Yards.fresh("new vehicles");
        StringBuilder text = new StringBuilder("to m() { var VEHICLE v = none; ");
        for (String kind : KINDS) {
            text.append("v = new ").append(kind).append("(); ");
        }
        Yards.loaded(x, text.append("}").toString());
        Yards.due("run", 0, x.run(0, 0, 0, 99));
        for (int k = 0; k < KINDS.length; k++) {
            String of = " of a new " + KINDS[k];
            Yards.due("kind" + of, k, x.vehicle(k, 0));
            Yards.due("tag" + of, 0, x.vehicle(k, 1));
            Yards.due("behind" + of, -1, x.vehicle(k, 2));
            Yards.due("mass" + of, MASS_NEW[k], x.vehicle(k, 3));
            Yards.due("grip" + of, GRIP[k], x.vehicle(k, 4));
            Yards.due("pull" + of, PULL_NEW[k], x.vehicle(k, 5));
            for (int what = 6; what <= 9; what++) {
                Yards.due("field " + what + of, 0, x.vehicle(k, what));
            }
            Yards.due("what 10" + of, -1, x.vehicle(k, 10));
            Yards.due("what -1" + of, -1, x.vehicle(k, -1));
        }
        Yards.due("vehicle(13, 0)", -1, x.vehicle(13, 0));
        Yards.due("vehicle(-1, 0)", -1, x.vehicle(-1, 0));
        Yards.due("vehicle(300, 0)", -1, x.vehicle(300, 0));
        Yards.due("vehicle(max, 0)", -1, x.vehicle(Integer.MAX_VALUE, 0));
        Yards.due("vehicle(min, min)", -1, x.vehicle(Integer.MIN_VALUE, Integer.MIN_VALUE));
    }

    private static void tellsWhatWasSet() {
        FreightYards x = Yards.fresh("fields");
        Yards.loaded(x, "to m() { var REEFER r = new REEFER(); var SHUNTER s = new SHUNTER(); "
            + "r.tag = 11; r.behind = s; r.load = 12; r.chill = -13; r.fuel = 14; s.reach = 15; s.behind = s; "
            + "var CRANE c = new CRANE(); c.behind = r; c.behind = none; }");
        Yards.due("run", 0, x.run(0, 0, 0, 99));
        Yards.due("tag", 11, x.vehicle(0, 1));
        Yards.due("behind", 1, x.vehicle(0, 2));
        Yards.due("load", 12, x.vehicle(0, 6));
        Yards.due("chill", -13, x.vehicle(0, 7));
        Yards.due("reach", 0, x.vehicle(0, 8));
        Yards.due("fuel", 14, x.vehicle(0, 9));
        Yards.due("behind itself", 1, x.vehicle(1, 2));
        Yards.due("reach", 15, x.vehicle(1, 8));
        Yards.due("behind, none again", -1, x.vehicle(2, 2));
    }

    private static void massIs(String kind, String sets, int mass) {
        FreightYards x = Yards.fresh(kind + " with " + sets);
        Yards.loaded(x, "to m(): INT { var " + kind + " v = new " + kind + "(); " + sets + " return v.mass; }");
        Yards.due("run", 0, x.run(0, 0, 0, 99));
        Yards.due("told(1)", mass, x.told(1));
        Yards.due("vehicle(0, 3)", mass, x.vehicle(0, 3));
    }

    private static void reckonsMass() {
        massIs("STEAM", "v.fuel = 7;", 52);
        massIs("DIESEL", "v.fuel = 7;", 48);
        massIs("DIESEL", "v.fuel = -7;", 42);
        massIs("SHUNTER", "v.fuel = 7; v.reach = 100;", 28);
        massIs("BOX", "v.load = 7;", 22);
        massIs("FLAT", "v.load = 7;", 22);
        massIs("TANK", "v.load = 7;", 29);
        massIs("REEFER", "v.load = 7; v.fuel = 100; v.chill = -1;", 125);
        massIs("MILKER", "v.load = 7; v.chill = -1;", 30);
        massIs("MILKER", "v.load = 7; v.chill = 0;", 29);
        massIs("MILKER", "v.load = 7; v.chill = 1;", 29);
        massIs("CRANE", "v.load = 7; v.reach = 100;", 122);
    }

    private static void reckonsPull() {
        FreightYards x = Yards.fresh("pull");
        Yards.loaded(x, "to m(INT f): INT { var STEAM s = new STEAM(); s.fuel = f; return s.pull; }");
        x.run(0, 7, 0, 99);
        Yards.due("told(1)", 140, x.told(1));
        Yards.due("vehicle(0, 5)", 140, x.vehicle(0, 5));
        x.run(0, -7, 0, 99);
        Yards.due("vehicle(1, 5)", -140, x.vehicle(1, 5));
    }

    private static void wraps() {
        FreightYards x = Yards.fresh("wrapping");
        Yards.loaded(x, "to m(INT f) { var STEAM s = new STEAM(); s.fuel = f; var TANK t = new TANK(); t.load = f; }");
        x.run(0, Integer.MAX_VALUE, 0, 99);
        Yards.due("mass of the engine", Integer.MAX_VALUE + 45, x.vehicle(0, 3));
        Yards.due("pull of the engine", -20, x.vehicle(0, 5));
        Yards.due("mass of the tank", 13, x.vehicle(1, 3));
    }
}
