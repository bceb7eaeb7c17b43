/** Terms: what is below what, what has which fields, and what they weigh, grip and pull; a sentence a test. */
public final class BoundsOfTypesTest {
    private static final String[] TYPES = {"VEHICLE", "ENGINE", "WAGON", "STEAM", "DIESEL", "BOX", "TANK", "FLAT",
        "VAN", "SHUNTER", "REEFER", "MILKER", "CRANE", "HOLDS", "COOLS", "BRAKES", "LIFTS", "BURNS"};
    private static final int KINDS = 13;
    private static final String[] BELOW = {
        "VEHICLE",
        "ENGINE VEHICLE BRAKES",
        "WAGON VEHICLE",
        "STEAM ENGINE VEHICLE BRAKES BURNS",
        "DIESEL ENGINE VEHICLE BRAKES BURNS",
        "BOX WAGON VEHICLE HOLDS",
        "TANK WAGON VEHICLE HOLDS",
        "FLAT WAGON VEHICLE HOLDS",
        "VAN WAGON VEHICLE BRAKES",
        "SHUNTER DIESEL ENGINE VEHICLE BRAKES BURNS LIFTS",
        "REEFER BOX WAGON VEHICLE HOLDS COOLS BURNS",
        "MILKER TANK WAGON VEHICLE HOLDS COOLS",
        "CRANE FLAT WAGON VEHICLE HOLDS LIFTS",
        "HOLDS", "COOLS", "BRAKES", "LIFTS", "BURNS"};
    private static final String[] FIELDS = {"tag", "behind", "mass", "grip", "pull", "load", "chill", "reach", "fuel"};
    private static final String[] OWNERS = {"VEHICLE", "VEHICLE", "VEHICLE", "BRAKES", "ENGINE", "HOLDS", "COOLS",
        "LIFTS", "BURNS"};
    private static final int MOST = Integer.MAX_VALUE;
    private static final int LEAST = Integer.MIN_VALUE;

    public static void main(String[] args) {
        whatIsBelowWhatAsItIs();
        whatIsBelowWhatAsItIsWritten();
        rowsAreBelowAsWhatTheyAreOf();
        rowsAreNotBelowWhatTheyAreOf();
        rowsAreSeenAsTheyAre();
        whatMayBeAsked();
        rowsThatMayBeAsked();
        whatNothingIsBelow();
        whatHasWhichField();
        numbersAreInOrder();
        numbersOfTypes();
        intsWrap();
        allIsZeroAtFirst();
        placesAreNothingAtFirst();
        placesTakeWhatIsBelow();
        massesOfEngines();
        massesOfWagons();
        massesThatWrap();
        halvesGoTowardsZero();
        chillBelowZero();
        grips();
        pulls();
        Yards.end();
    }

    private static boolean below(int a, int b) {
        return (" " + BELOW[a] + " ").contains(" " + TYPES[b] + " ");
    }

    private static void reads(String text, boolean due) {
        FreightYards x = Yards.fresh(text);
        int procs = Yards.load(x, text);
        Yards.due("load", due ? 1 : 0, procs);
        Yards.due("fault(0)", due ? 0 : 4, x.fault(0));
    }

    private static void whatIsBelowWhatAsItIs() {
        Yards.sentence("A KIND is BELOW itself, what is above it, and its ABILITIES");
        for (int a = 0; a < KINDS; a++) {
            for (int b = 0; b < TYPES.length; b++) {
                String text = "to m(): INT { var VEHICLE v = new " + TYPES[a] + "(); return v is " + TYPES[b] + "; }";
                Yards.due("told(1)", below(a, b) ? 1 : 0, Yards.given(text, 0, 0));
            }
        }
    }

    private static void whatIsBelowWhatAsItIsWritten() {
        Yards.sentence("A KIND is BELOW itself, what is above it, and its ABILITIES; an ABILITY below itself alone");
        for (int a = 0; a < TYPES.length; a++) {
            for (int b = 0; b < TYPES.length; b++) {
                reads("to m(" + TYPES[a] + " a) { var " + TYPES[b] + " b = a; }", below(a, b));
            }
            reads("to m(" + TYPES[a] + " a) { var INT b = a; }", false);
            reads("to m(INT a) { var " + TYPES[a] + " b = a; }", false);
        }
    }

    private static void rowsAreBelowAsWhatTheyAreOf() {
        Yards.sentence("A ROW is BELOW a ROW if what it is of is BELOW what that is of");
        for (int a = 0; a < TYPES.length; a++) {
            for (int b = 0; b < TYPES.length; b++) {
                reads("to m(" + TYPES[a] + "[] a) { var " + TYPES[b] + "[] b = a; }", below(a, b));
            }
        }
    }

    private static void rowsAreNotBelowWhatTheyAreOf() {
        Yards.sentence("A ROW is BELOW a ROW");
        for (int a = 0; a < TYPES.length; a++) {
            for (int b = 0; b < TYPES.length; b++) {
                reads("to m(" + TYPES[a] + "[] a) { var " + TYPES[b] + " b = a; }", false);
                reads("to m(" + TYPES[a] + " a) { var " + TYPES[b] + "[] b = a; }", false);
            }
            reads("to m(" + TYPES[a] + "[] a) { var INT b = a; }", false);
            reads("to m(INT a) { var " + TYPES[a] + "[] b = a; }", false);
        }
    }

    private static void rowsAreSeenAsTheyAre() {
        Yards.sentence("A ROW is BELOW a ROW if what it is of is BELOW what that is of (as they are in a run)");
        for (int a = 0; a < TYPES.length; a++) {
            for (int b = 0; b < TYPES.length; b++) {
                String as = a < KINDS ? "VEHICLE" : TYPES[a];
                String text = "to m(): INT { var " + as + "[] r = new " + TYPES[a] + "[0]; return r is " + TYPES[b]
                    + "[]; }";
                Yards.due("told(1)", below(a, b) ? 1 : 0, Yards.given(text, 0, 0));
            }
        }
    }

    private static void whatMayBeAsked() {
        Yards.sentence("two KINDS, .. of which neither is BELOW the other");
        for (int a = 0; a < TYPES.length; a++) {
            for (int b = 0; b < TYPES.length; b++) {
                boolean may = a >= KINDS || b >= KINDS || below(a, b) || below(b, a);
                reads("to m(" + TYPES[a] + " a) { say a is " + TYPES[b] + "; }", may);
                reads("to m(" + TYPES[a] + " a) { say a as " + TYPES[b] + "; }", may);
                reads("to m(" + TYPES[a] + " a) { say a as " + TYPES[b] + "[]; }", false);
            }
            reads("to m(" + TYPES[a] + " a) { say a is INT; }", false);
            reads("to m(INT a) { say a is " + TYPES[a] + "; }", false);
        }
    }

    private static void rowsThatMayBeAsked() {
        Yards.sentence("or ROWS of such, of which neither is BELOW the other");
        for (int a = 0; a < TYPES.length; a++) {
            for (int b = 0; b < TYPES.length; b++) {
                boolean may = a >= KINDS || b >= KINDS || below(a, b) || below(b, a);
                reads("to m(" + TYPES[a] + "[] a) { say a is " + TYPES[b] + "[]; }", may);
                reads("to m(" + TYPES[a] + "[] a) { say a as " + TYPES[b] + "[]; }", may);
                reads("to m(" + TYPES[a] + "[] a) { say a is " + TYPES[b] + "; }", false);
            }
            reads("to m(" + TYPES[a] + "[] a) { say a as INT; }", false);
            reads("to m(INT a) { say a as " + TYPES[a] + "[]; }", false);
        }
    }

    private static void whatNothingIsBelow() {
        Yards.sentence("none: NOTHING, which is BELOW all REFERENCES");
        for (String type : TYPES) {
            reads("to m(): " + type + " { return none; }", true);
            reads("to m(): " + type + "[] { return none; }", true);
            Yards.due("none is", 0, Yards.given("to m(): INT { return none is " + type + "; }", 0, 0));
            Yards.due("none is", 0, Yards.given("to m(): INT { return none is " + type + "[]; }", 0, 0));
            Yards.due("none as", 1, Yards.given("to m(): INT { return none as " + type + " == none; }", 0, 0));
            Yards.due("none as", 1, Yards.given("to m(): INT { return none as " + type + "[] == none; }", 0, 0));
        }
        for (String field : FIELDS) {
            reads("to m() { say none." + field + "; }", true);
        }
        reads("to m(): INT { return none; }", false);
    }

    private static void whatHasWhichField() {
        Yards.sentence("of FIELDS: tag, mass (VEHICLE), grip (BRAKES), pull (ENGINE), load (HOLDS), chill (COOLS), "
            + "reach (LIFTS), fuel (BURNS): INT; behind (VEHICLE): VEHICLE");
        for (int a = 0; a < TYPES.length; a++) {
            for (int f = 0; f < FIELDS.length; f++) {
                boolean has = (" " + BELOW[a] + " ").contains(" " + OWNERS[f] + " ");
                String type = FIELDS[f].equals("behind") ? "VEHICLE" : "INT";
                reads("to m(" + TYPES[a] + " a): " + type + " { return a." + FIELDS[f] + "; }", has);
                reads("to m(" + TYPES[a] + "[] a) { say a." + FIELDS[f] + "; }", false);
            }
        }
    }

    private static void numbersAreInOrder() {
        Yards.sentence("a NUMBER (from 0 on, as they are made)");
        FreightYards x = Yards.fresh("over runs and texts");
        Yards.loaded(x, "to m() { say new BOX(); say new VAN(); }");
        x.run(0, 0, 0, 9);
        x.run(0, 0, 0, 9);
        Yards.loaded(x, "to m() { say new BOX(); }");
        x.run(0, 0, 0, 9);
        for (int i = 0; i < 5; i++) {
            Yards.due("said(" + i + ")", i, x.said(i));
        }
    }

    private static void numbersOfTypes() {
        Yards.sentence("a KIND, an ABILITY (numbers 0 .. 17); a ROW of one of these (18 more)");
        for (int a = 0; a < TYPES.length; a++) {
            FreightYards x = Yards.fresh(TYPES[a]);
            Yards.loaded(x, "to m(): " + TYPES[a] + "[] { return new " + TYPES[a] + "[1]; }");
            x.run(0, 0, 0, 9);
            Yards.due("told(2)", 18 + a, x.told(2));
            if (a < KINDS) {
                Yards.loaded(x, "to m(): " + TYPES[a] + " { return new " + TYPES[a] + "(); }");
                x.run(0, 0, 0, 9);
                Yards.due("told(2)", a, x.told(2));
                Yards.due("vehicle(0, 0)", a, x.vehicle(0, 0));
            }
        }
    }

    private static void intsWrap() {
        Yards.sentence("INT (32 bits, they wrap)");
        String sum = "to m(INT a, INT b): INT { return a + b; }";
        Yards.due("given", LEAST, Yards.given(sum, MOST, 1));
        Yards.due("given", MOST, Yards.given(sum, LEAST, -1));
        Yards.due("given", 0, Yards.given(sum, LEAST, LEAST));
        String less = "to m(INT a, INT b): INT { return a - b; }";
        Yards.due("given", MOST, Yards.given(less, LEAST, 1));
        Yards.due("given", LEAST, Yards.given(less, 0, LEAST));
        Yards.due("given", LEAST, Yards.given(less, MOST, -1));
        String product = "to m(INT a, INT b): INT { return a * b; }";
        Yards.due("given", LEAST, Yards.given(product, LEAST, -1));
        Yards.due("given", 1, Yards.given(product, MOST, MOST));
        Yards.due("given", 0, Yards.given(product, 65536, 65536));
        Yards.due("given", -2, Yards.given(product, MOST, 2));
        String before = "to m(INT a, INT b): INT { return a < b; }";
        Yards.due("given", 1, Yards.given(before, LEAST, MOST));
        Yards.due("given", 0, Yards.given(before, MOST, LEAST));
        Yards.due("given", 0, Yards.given(before, LEAST, LEAST));
    }

    private static void allIsZeroAtFirst() {
        Yards.sentence("a TAG (an INT) and what is BEHIND it (a VEHICLE or NOTHING); .. INTS, 0 at first");
        for (int k = 0; k < KINDS; k++) {
            FreightYards x = Yards.fresh(TYPES[k]);
            Yards.loaded(x, "to m() { new " + TYPES[k] + "().tag = 0; }");
            x.run(0, 0, 0, 9);
            Yards.due("tag", 0, x.vehicle(0, 1));
            Yards.due("behind", -1, x.vehicle(0, 2));
            for (int what = 6; what <= 9; what++) {
                Yards.due("vehicle(0, " + what + ")", 0, x.vehicle(0, what));
            }
        }
        FreightYards x = Yards.fresh("read in the language");
        Yards.loaded(x, "to m() { var REEFER r = new REEFER(); say r.tag; say r.load; say r.chill; say r.fuel; "
            + "say new CRANE().reach; say r.behind; }");
        x.run(0, 0, 0, 99);
        for (int i = 0; i < 5; i++) {
            Yards.due("said(" + i + ")", 0, x.said(i));
        }
        Yards.due("said(5)", -1000, x.said(5));
    }

    private static void placesAreNothingAtFirst() {
        Yards.sentence("has PLACES 0, 1, .., each with a VEHICLE .. or NOTHING (as at first)");
        FreightYards x = Yards.fresh("40 places");
        Yards.loaded(x, "to m(INT i): INT { var BOX[] r = new BOX[40]; return r[i] == none; }");
        for (int i = 0; i < 40; i++) {
            Yards.due("run", 0, x.run(0, i, 0, 99));
            Yards.due("told(1)", 1, x.told(1));
        }
        Yards.due("run", 2, x.run(0, 40, 0, 99));
        Yards.due("run", 2, x.run(0, -1, 0, 99));
    }

    private static void placesTakeWhatIsBelow() {
        Yards.sentence("each with a VEHICLE that is BELOW that (5 STORE: a place gets a VEHICLE that is not)");
        for (int k = 0; k < KINDS; k++) {
            for (int of = 0; of < KINDS; of++) {
                puts("VEHICLE", TYPES[of], TYPES[k], below(k, of));
                for (int as = KINDS; as < TYPES.length; as++) {
                    if (below(of, as) && below(k, as)) {
                        puts(TYPES[as], TYPES[of], TYPES[k], below(k, of));
                    }
                }
            }
            for (int as = KINDS; as < TYPES.length; as++) {
                if (below(k, as)) {
                    puts(TYPES[as], TYPES[as], TYPES[k], true);
                }
            }
        }
    }

    private static void puts(String as, String of, String kind, boolean fits) {
        FreightYards x = Yards.fresh(kind + " into " + of + "[] known as " + as + "[]");
        Yards.loaded(x, "to m() { var " + as + "[] r = new " + of + "[1]; r[0] = new " + kind + "(); say r[0]; }");
        Yards.due("run", fits ? 0 : 5, x.run(0, 0, 0, 99));
        Yards.due("said(0)", 0, x.said(0));
        Yards.due("count(7)", fits ? 1 : 0, x.count(7));
    }

    private static int mass(String kind, String sets, int a, int b) {
        FreightYards x = Yards.fresh(kind + ", " + sets);
        Yards.loaded(x, "to m(INT a, INT b): INT { var " + kind + " v = new " + kind + "(); " + sets + " return v.mass; }");
        Yards.due("run", 0, x.run(0, a, b, 99));
        Yards.due("vehicle(0, 3)", x.told(1), x.vehicle(0, 3));
        return x.told(1);
    }

    private static void massesOfEngines() {
        Yards.sentence("MASS: of a VEHICLE 5; ENGINE: 40 more than that");
        Yards.due("mass", 5, mass("VEHICLE", "", 0, 0));
        Yards.due("mass", 45, mass("ENGINE", "", 0, 0));
        Yards.sentence("STEAM: its FUEL more than an ENGINE");
        Yards.due("mass", 45, mass("STEAM", "", 0, 0));
        Yards.due("mass", 52, mass("STEAM", "v.fuel = a;", 7, 0));
        Yards.due("mass", 38, mass("STEAM", "v.fuel = a;", -7, 0));
        Yards.sentence("SHUNTER: 20 less than a DIESEL");
        Yards.due("mass", 25, mass("SHUNTER", "", 0, 0));
        Yards.due("mass", 29, mass("SHUNTER", "v.fuel = a; v.reach = b;", 8, 1000));
    }

    private static void massesOfWagons() {
        Yards.sentence("WAGON: 10 more than a VEHICLE");
        Yards.due("mass", 15, mass("WAGON", "", 0, 0));
        Yards.sentence("BOX, FLAT: its LOAD more than a WAGON");
        Yards.due("mass", 22, mass("BOX", "v.load = a;", 7, 0));
        Yards.due("mass", -1, mass("BOX", "v.load = a;", -16, 0));
        Yards.due("mass", 22, mass("FLAT", "v.load = a;", 7, 0));
        Yards.due("mass", -1, mass("FLAT", "v.load = a;", -16, 0));
        Yards.sentence("TANK: twice its LOAD more");
        Yards.due("mass", 29, mass("TANK", "v.load = a;", 7, 0));
        Yards.due("mass", -1, mass("TANK", "v.load = a;", -8, 0));
        Yards.sentence("VAN: 2 more");
        Yards.due("mass", 17, mass("VAN", "", 0, 0));
        Yards.sentence("REEFER: its FUEL and 3 more than a BOX");
        Yards.due("mass", 18, mass("REEFER", "", 0, 0));
        Yards.due("mass", 30, mass("REEFER", "v.load = a; v.fuel = b; v.chill = -9;", 7, 5));
        Yards.due("mass", 6, mass("REEFER", "v.load = a; v.fuel = b;", -7, -5));
        Yards.sentence("CRANE: its REACH more than a FLAT");
        Yards.due("mass", 15, mass("CRANE", "", 0, 0));
        Yards.due("mass", 27, mass("CRANE", "v.load = a; v.reach = b;", 7, 5));
        Yards.due("mass", 3, mass("CRANE", "v.load = a; v.reach = b;", -7, -5));
    }

    private static void massesThatWrap() {
        Yards.sentence("INT (32 bits, they wrap): of MASS");
        Yards.due("mass", LEAST + 44, mass("STEAM", "v.fuel = a;", MOST, 0));
        Yards.due("mass", LEAST + 14, mass("BOX", "v.load = a;", MOST, 0));
        Yards.due("mass", LEAST + 14, mass("FLAT", "v.load = a;", MOST, 0));
        Yards.due("mass", 13, mass("TANK", "v.load = a;", MOST, 0));
        Yards.due("mass", 15, mass("TANK", "v.load = a;", LEAST, 0));
        Yards.due("mass", 16, mass("MILKER", "v.load = a; v.chill = b;", LEAST, LEAST));
        Yards.due("mass", 16, mass("REEFER", "v.load = a; v.fuel = b;", MOST, MOST));
        Yards.due("mass", 18, mass("REEFER", "v.load = a; v.fuel = b;", LEAST, LEAST));
        Yards.due("mass", 13, mass("CRANE", "v.load = a; v.reach = b;", MOST, MOST));
    }

    private static void halvesGoTowardsZero() {
        Yards.sentence("DIESEL: half its FUEL (towards 0) more than an ENGINE");
        int[] fuel = {0, 1, 2, 3, -1, -2, -3, MOST, LEAST};
        int[] half = {0, 0, 1, 1, 0, -1, -1, 1073741823, -1073741824};
        for (int i = 0; i < fuel.length; i++) {
            Yards.due("mass", 45 + half[i], mass("DIESEL", "v.fuel = a;", fuel[i], 0));
            Yards.due("mass", 25 + half[i], mass("SHUNTER", "v.fuel = a;", fuel[i], 0));
        }
    }

    private static void chillBelowZero() {
        Yards.sentence("MILKER: 1 more than a TANK if its CHILL is below 0, else as that");
        int[] chill = {-1, 0, 1, MOST, LEAST};
        int[] more = {1, 0, 0, 0, 1};
        for (int i = 0; i < chill.length; i++) {
            Yards.due("mass", 15 + more[i], mass("MILKER", "v.chill = a;", chill[i], 0));
            Yards.due("mass", 29 + more[i], mass("MILKER", "v.chill = a; v.load = b;", chill[i], 7));
        }
    }

    private static int field(String kind, String field, String sets, int a) {
        return Yards.given("to m(INT a): INT { var " + kind + " v = new " + kind + "(); " + sets + " return v." + field
            + "; }", a, 0);
    }

    private static void grips() {
        Yards.sentence("GRIP (of what BRAKES): ENGINE 10, STEAM 5 more, DIESEL twice that of an ENGINE, SHUNTER 3 less "
            + "than a DIESEL; VAN 25");
        Yards.due("grip", 10, field("ENGINE", "grip", "", 0));
        Yards.due("grip", 15, field("STEAM", "grip", "v.fuel = a;", 9));
        Yards.due("grip", 20, field("DIESEL", "grip", "v.fuel = a;", 9));
        Yards.due("grip", 17, field("SHUNTER", "grip", "v.fuel = a;", 9));
        Yards.due("grip", 25, field("VAN", "grip", "", 0));
    }

    private static void pulls() {
        Yards.sentence("PULL (of an ENGINE): 0; STEAM 20 times its FUEL; DIESEL 300; SHUNTER half that of a DIESEL");
        Yards.due("pull", 0, field("ENGINE", "pull", "", 0));
        Yards.due("pull", 0, field("STEAM", "pull", "", 0));
        Yards.due("pull", 20, field("STEAM", "pull", "v.fuel = a;", 1));
        Yards.due("pull", -20, field("STEAM", "pull", "v.fuel = a;", -1));
        Yards.due("pull that wraps", -20, field("STEAM", "pull", "v.fuel = a;", MOST));
        Yards.due("pull that wraps", 0, field("STEAM", "pull", "v.fuel = a;", LEAST));
        Yards.due("pull", 300, field("DIESEL", "pull", "v.fuel = a;", -9));
        Yards.due("pull", 150, field("SHUNTER", "pull", "v.fuel = a;", -9));
    }
}
