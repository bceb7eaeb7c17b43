/** Part III: the sentences on acts, faults and ends of a run that name a bound; a sentence a test. */
public final class BoundsOfRunTest {
    private static final int MOST = Integer.MAX_VALUE;
    private static final int LEAST = Integer.MIN_VALUE;
    private static final String HEAD = "to m(INT a, INT b) { ";

    public static void main(String[] args) {
        eachActForOneOfFuel();
        endsWithNoneLeft();
        partsFromTheLeft();
        partsOfPlacesFromTheLeft();
        nothingIsThere();
        noSuchPlace();
        sizesBelowZero();
        kindsThatAreNotBelow();
        storesThatAreNotBelow();
        oneAndTwoGoAheadOfFive();
        ownFaults();
        faultsHaveDoneNothingElse();
        innermostTryTakesIt();
        triesThatAreNotUnderWay();
        triesInAnyProc();
        catchNamesGetTheNumber();
        noTryTakesAnEnd();
        waitingValuesAreGone();
        threeHundredVehicles();
        twoHundredRows();
        twoThousandPlaces();
        fortyPlaces();
        sixHundredFaults();
        roomGoesAheadOfSize();
        roomIsOfTheObjectsLife();
        fifteenProcsDeep();
        whatIsSomething();
        sameThings();
        sizesOfRows();
        endsWithoutReturn();
        saidNumbers();
        threeHundredSaid();
        whatIsLookedAt();
        Yards.end();
    }

    /** A proc m of two ints with the statements is loaded and run: what run() answers. */
    private static int run(FreightYards x, String statements, int a, int b, int fuel) {
        Yards.loaded(x, HEAD + statements + " }");
        return x.run(0, a, b, fuel);
    }

    private static void said(FreightYards x, int... due) {
        Yards.due("count(7)", due.length, x.count(7));
        for (int i = 0; i < due.length; i++) {
            Yards.due("said(" + i + ")", due[i], x.said(i));
        }
    }

    /** A run of the statements says this and is done. */
    private static void says(String statements, int... due) {
        FreightYards x = Yards.fresh(statements);
        Yards.due("run", 0, run(x, statements, 0, 0, 2000));
        said(x, due);
    }

    /**
     * What is marked is the last of so many acts, and there the fault or end comes to pass: with one of fuel less
     * it does not, and a try takes a fault, but no end.
     */
    private static void comesOut(int fault, int acts, String marked) {
        String statements = marked.replace("~", "");
        FreightYards x = Yards.fresh(marked);
        Yards.due("run", fault, run(x, statements, 0, 0, acts));
        Yards.due("told(0)", fault, x.told(0));
        Yards.due("told(4)", 0, x.told(4));
        Yards.due("told(6)", HEAD.length() + marked.indexOf('~'), x.told(6));
        Yards.due("count(6)", fault < 7 ? 1 : 0, x.count(6));
        int own = x.told(5);
        x = Yards.fresh(marked + " with one of fuel less");
        Yards.due("run", 7, run(x, statements, 0, 0, acts - 1));
        Yards.due("count(6)", 0, x.count(6));
        x = Yards.fresh(marked + " in a try");
        Yards.due("run", fault < 7 ? 0 : fault, run(x, "try { " + statements + " } catch (e) { say e; }", 0, 0, acts + 2));
        if (fault < 7) {
            Yards.due("told(4)", 0, x.told(4));
            said(x, fault == 6 ? own : fault);
        } else {
            said(x);
        }
    }

    private static void goesWell(String statements) {
        FreightYards x = Yards.fresh(statements);
        Yards.due("run", 0, run(x, statements, 0, 0, 2000));
        Yards.due("count(6)", 0, x.count(6));
    }

    /** With a = 3 and b = 4. */
    private static void costs(int acts, String statements) {
        for (int fuel = 0; fuel <= acts + 1; fuel++) {
            FreightYards x = Yards.fresh(statements + " with fuel " + fuel);
            Yards.due("run", fuel < acts ? 7 : 0, run(x, statements, 3, 4, fuel));
            Yards.due("told(4)", fuel <= acts ? 0 : 1, x.told(4));
        }
    }

    private static void eachActForOneOfFuel() {
        Yards.sentence("It does ACTS, each for 1 of FUEL: a NUMBER, none, a NAME (its value); a sign; as, is; X [ E ], a "
            + "FIELD, size; new; a CALL; a value that goes to a NAME, PLACE of a ROW or FIELD; say; return; fail; what "
            + "stands in the ( ) of if, while is looked at");
        costs(0, "");
        costs(2, "say 1;");
        costs(2, "say -1;");
        costs(2, "say none;");
        costs(2, "say a;");
        costs(2, "say ((a));");
        for (String sign : new String[] {"+", "-", "*", "<", "==", "!="}) {
            costs(4, "say a " + sign + " b;");
        }
        costs(3, "say none as BOX;");
        costs(3, "say none is BOX[];");
        costs(5, "say new BOX[1][0];");
        costs(3, "say new BOX().tag;");
        costs(4, "say new BOX[1].size;");
        costs(2, "say new BOX();");
        costs(3, "say new BOX[a];");
        costs(2, "say now();");
        costs(3, "say track(1);");
        costs(4, "say lay(1, none);");
        costs(3, "lay(1, none);");
        costs(5, "hump(new BOX[0], new BOX[0]);");
        costs(5, "send(new BOX[0], 1, 1);");
        costs(2, "var INT x = 1;");
        costs(2, "a = 1;");
        costs(5, "new BOX[1][0] = none;");
        costs(3, "new BOX().tag = 1;");
        costs(1, "return;");
        costs(1, "return; say 1;");
        costs(2, "if (a) { }");
        costs(3, "if (a) { return; }");
        costs(4, "if (0) { return; } else { say 1; }");
        costs(2, "while (0) { say 1; }");
        costs(20, "while (a) { a = a - 1; }");
        costs(0, "try { } catch (e) { }");
        costs(2, "try { } catch (e) { } say 1;");
        costs(4, "try { fail 1; } catch (e) { say e; }");
        costs(7, "if (a) { m(0, b); }");
    }

    private static void endsWithNoneLeft() {
        Yards.sentence("7 FUEL (an ACT with none left)");
        FreightYards x = Yards.fresh("fuel");
        Yards.due("no act", 0, run(x, "", 0, 0, 0));
        Yards.due("one act", 7, run(x, "return;", 0, 0, 0));
        Yards.due("told(4)", 0, x.told(4));
        Yards.due("told(6)", HEAD.length(), x.told(6));
        Yards.due("one act and 1 of fuel", 0, run(x, "return;", 0, 0, 1));
        Yards.due("told(4)", 0, x.told(4));
        Yards.due("for ever", 7, run(x, "while (1) { }", 0, 0, 2000));
        Yards.due("told(4)", 0, x.told(4));
    }

    private static final String HELPERS = " to f(INT x): INT { say x; return x; } "
        + "to r(INT x): VEHICLE[] { say x; return new VEHICLE[9]; } to v(INT x): VEHICLE { say x; return new VEHICLE(); } "
        + "to g(INT x, INT y, INT z): INT { return 0; } ";

    private static void ordered(String statements, int... due) {
        String text = HELPERS + "to m() { " + statements + " }";
        FreightYards x = Yards.fresh(statements);
        Yards.loaded(x, text);
        Yards.due("run", 0, x.run(4, 0, 0, 2000));
        said(x, due);
    }

    private static void partsFromTheLeft() {
        Yards.sentence("Parts are worked out from the left");
        ordered("f(f(1) + f(2) * f(3));", 1, 2, 3, 7);
        ordered("f(f(1) - f(2) - f(3));", 1, 2, 3, -4);
        ordered("f(f(1) * f(2) + f(3));", 1, 2, 3, 5);
        ordered("f((f(1)) < f(2));", 1, 2, 1);
        ordered("f(v(1) == v(2));", 1, 2, 0);
        ordered("g(f(1), f(2), f(3));", 1, 2, 3);
        ordered("f(f(9) - f(8) * f(7) < f(6) + f(5));", 9, 8, 7, 6, 5, 1);
        ordered("var INT x = r(1)[f(2)] == none; f(x);", 1, 2, 1);
    }

    private static void partsOfPlacesFromTheLeft() {
        Yards.sentence("(of X [ E ] = E: X, the place, the value; of X .FIELD = E: X, the value)");
        ordered("r(1)[f(2)] = v(3);", 1, 2, 3);
        ordered("v(1).tag = f(2);", 1, 2);
        ordered("r(1)[f(2)] = r(3)[f(4)];", 1, 2, 3, 4);
        ordered("v(1).behind = v(2);", 1, 2);
        Yards.sentence("(of X [ E ] = E: X, the place, the value): its FAULT comes behind them");
        comesOut(1, 8, "var BOX[] r = none; r[now() - 9] ~= none;");
        says("var BOX[] r = new BOX[1]; try { r[1] = new BOX(); } catch (e) { say e; } say new BOX();", 2, 1);
        says("var VEHICLE v = none; try { v.behind = new BOX(); } catch (e) { say e; } say new BOX();", 1, 1);
    }

    private static void nothingIsThere() {
        Yards.sentence("1 NOTHING: a ROW or VEHICLE is wanted and it is NOTHING");
        for (String field : new String[] {"tag", "behind", "mass", "grip", "pull", "load", "chill", "reach", "fuel"}) {
            comesOut(1, 2, "say none.~" + field + ";");
        }
        for (String field : new String[] {"tag", "load", "chill", "reach", "fuel"}) {
            comesOut(1, 3, "none." + field + " ~= 1;");
        }
        comesOut(1, 3, "none.behind ~= none;");
        comesOut(1, 3, "say new BOX().behind.~tag;");
        comesOut(1, 5, "say new BOX[1][0].~load;");
        comesOut(1, 5, "var BOX[] r = none; say r~[0];");
        comesOut(1, 6, "var BOX[] r = none; r[0] ~= none;");
        comesOut(1, 4, "var BOX[] r = none; say r.~size;");
        comesOut(1, 4, "say track(8)~[0];");
        comesOut(1, 3, "say track(0).~size;");
        comesOut(1, 4, "~hump(none, new BOX[1]);");
        comesOut(1, 4, "~hump(new BOX[1], none);");
        comesOut(1, 3, "~hump(none, none);");
        comesOut(1, 4, "~send(none, 1, 1);");
        comesOut(1, 4, "~send(none, 8, 0);");
        goesWell("lay(0, none); say track(0); say none is BOX; say none as BOX; say none == none; say none;");
    }

    private static void noSuchPlace() {
        Yards.sentence("2 PLACE: a ROW has no such place");
        comesOut(2, 4, "say new BOX[0]~[0];");
        comesOut(2, 4, "say new BOX[1]~[1];");
        comesOut(2, 4, "say new BOX[1]~[-1];");
        comesOut(2, 4, "say new BOX[40]~[40];");
        comesOut(2, 4, "say new BOX[40]~[999999999];");
        comesOut(2, 5, "new BOX[0][0] ~= none;");
        comesOut(2, 5, "new BOX[1][1] ~= none;");
        comesOut(2, 5, "new BOX[1][-1] ~= none;");
        comesOut(2, 5, "new BOX[40][40] ~= new BOX();");
        goesWell("say new BOX[1][0]; say new BOX[40][39]; new BOX[40][39] = none; new BOX[40][0] = new BOX();");
        FreightYards x = Yards.fresh("the least and the most int");
        Yards.due("run", 2, run(x, "say new BOX[1][a];", LEAST, 0, 9));
        Yards.due("run", 2, run(x, "say new BOX[1][a];", MOST, 0, 9));
        Yards.due("run", 2, run(x, "new BOX[1][a] = none;", LEAST, 0, 9));
        Yards.due("run", 2, run(x, "new BOX[1][a] = none;", MOST, 0, 9));
    }

    private static void sizesBelowZero() {
        Yards.sentence("3 SIZE: new with fewer than 0 places");
        comesOut(3, 2, "say ~new BOX[-1];");
        comesOut(3, 2, "say ~new HOLDS[-999999999];");
        goesWell("say new BOX[0];");
        FreightYards x = Yards.fresh("the least int");
        Yards.due("run", 3, run(x, "say new BOX[a];", LEAST, 0, 9));
        Yards.due("count(2)", 0, x.count(2));
        Yards.due("count(3)", 0, x.count(3));
    }

    private static void kindsThatAreNotBelow() {
        Yards.sentence("4 KIND: as: what is there is not BELOW the TYPE (NOTHING always is)");
        comesOut(4, 2, "say new BOX() ~as REEFER;");
        comesOut(4, 2, "say new BOX() ~as COOLS;");
        comesOut(4, 2, "say new VEHICLE() ~as WAGON;");
        comesOut(4, 3, "say new BOX[1] ~as REEFER[];");
        comesOut(4, 3, "say new BOX[1] ~as COOLS[];");
        comesOut(4, 3, "say new HOLDS[1] ~as VEHICLE[];");
        comesOut(4, 3, "say new HOLDS[1] ~as BOX[];");
        comesOut(4, 3, "say new REEFER[0] ~as BRAKES[];");
        goesWell("say new BOX() as BOX; say new REEFER() as COOLS; say new REEFER() as VEHICLE; "
            + "say new REEFER[1] as HOLDS[]; say new HOLDS[1] as HOLDS[]; var VEHICLE v = none; say v as REEFER; "
            + "var VEHICLE[] r = none; say r as HOLDS[]; say none as CRANE;");
    }

    private static void storesThatAreNotBelow() {
        Yards.sentence("5 STORE: a place of a ROW gets a VEHICLE that is not BELOW what the ROW is of");
        comesOut(5, 7, "var VEHICLE[] r = new TANK[2]; r[1] ~= new BOX();");
        comesOut(5, 7, "var HOLDS[] r = new REEFER[2]; r[1] ~= new BOX();");
        comesOut(5, 7, "var VEHICLE[] r = new WAGON[1]; r[0] ~= new VEHICLE();");
        goesWell("var VEHICLE[] r = new TANK[2]; r[1] = new TANK(); r[0] = new MILKER(); r[1] = none; "
            + "var HOLDS[] s = new HOLDS[1]; s[0] = new CRANE();");
    }

    private static void oneAndTwoGoAheadOfFive() {
        Yards.sentence("(1 and 2 go ahead of it)");
        comesOut(1, 6, "var VEHICLE[] r = none; r[-1] ~= new BOX();");
        comesOut(2, 7, "var VEHICLE[] r = new TANK[2]; r[2] ~= new BOX();");
        comesOut(2, 7, "var VEHICLE[] r = new TANK[2]; r[-1] ~= new BOX();");
    }

    private static void ownFaults() {
        Yards.sentence("6 OWN: fail with an INT");
        for (int own : new int[] {7, 0, -1, 3, 999999999}) {
            comesOut(6, 2, "~fail " + own + ";");
        }
        FreightYards x = Yards.fresh("the least int");
        Yards.due("run", 6, run(x, "fail a;", LEAST, 0, 9));
        Yards.due("told(5)", LEAST, x.told(5));
        Yards.due("run", 6, run(x, "try { fail a; } catch (e) { fail e; }", MOST, 0, 9));
        Yards.due("told(5)", MOST, x.told(5));
    }

    private static void faultsHaveDoneNothingElse() {
        Yards.sentence("each comes out of its ACT, which has done nothing else");
        FreightYards x = Yards.fresh("what is on tracks");
        String made = "var VEHICLE[] r = new BOX[2]; r[0] = new BOX(); lay(0, r); ";
        Yards.due("run", 0, run(x, made, 0, 0, 99));
        String[] faulty = {"track(0)[0] = new VAN();", "track(0)[2] = new BOX();", "hump(track(0), none);",
            "hump(none, track(0));", "send(none, 1, 1);", "say new BOX[-1];", "say track(0) as REEFER[];", "say none.tag;",
            "fail 3;"};
        int[] fault = {5, 2, 1, 1, 1, 3, 4, 1, 6};
        for (int i = 0; i < faulty.length; i++) {
            Yards.due(faulty[i], fault[i], run(x, faulty[i], 0, 0, 99));
            Yards.due("place(0, 0)", 0, x.place(0, 0));
            Yards.due("place(0, 1)", -1, x.place(0, 1));
            Yards.due("count(2)", 1, x.count(2));
            Yards.due("count(3)", 2, x.count(3));
            Yards.due("count(4)", 0, x.count(4));
            Yards.due("count(7)", 0, x.count(7));
        }
    }

    private static void innermostTryTakesIt() {
        Yards.sentence("The innermost try that is under way (in any PROC) takes it");
        says("try { try { fail 7; } catch (e) { say e; } say 2; } catch (f) { say 99; }", 7, 2);
        says("try { try { fail 7; } catch (e) { fail e + 1; } say 99; } catch (f) { say f; }", 8);
        says("try { try { say 1; } catch (e) { say 99; } fail 7; } catch (f) { say f; }", 1, 7);
        says("try { fail 1; } catch (e) { try { fail 2; } catch (f) { say e * 10 + f; } }", 12);
        says("try { try { fail 7; } catch (e) { try { fail 8; } catch (f) { say f; } fail 9; } } catch (g) { say g; }", 8, 9);
        says("try { fail 7; say 99; } catch (e) { say e; } say 2;", 7, 2);
        says("try { if (1) { while (1) { fail 7; } } } catch (e) { say e; }", 7);
    }

    private static void triesThatAreNotUnderWay() {
        Yards.sentence("try that is under way: not ahead of it, not behind it, not in its catch");
        for (String statements : new String[] {"fail 7; try { } catch (e) { }", "try { } catch (e) { } fail 7;",
            "try { fail 1; } catch (e) { fail 7; }", "if (0) { try { } catch (e) { } } else { fail 7; }",
            "try { say 1; } catch (e) { } fail 7; try { say 2; } catch (e) { }"}) {
            FreightYards x = Yards.fresh(statements);
            Yards.due("run", 6, run(x, statements, 0, 0, 99));
            Yards.due("told(5)", 7, x.told(5));
        }
        FreightYards x = Yards.fresh("a try that a return has left");
        Yards.loaded(x, "to f() { try { return; } catch (e) { say 99; } } to m() { f(); fail 7; }");
        Yards.due("run", 6, x.run(1, 0, 0, 99));
        Yards.due("told(5)", 7, x.told(5));
    }

    private static void triesInAnyProc() {
        Yards.sentence("(in any PROC)");
        String f = "to f() { fail 7; } to g() { f(); say 99; } to h(INT n) { if (n == 0) { f(); } h(n - 1); say 99; } ";
        String[] catchers = {"try { f(); say 99; } catch (e) { say e; }", "try { g(); say 99; } catch (e) { say e; }",
            "say 7 * now(); try { f(); } catch (e) { say e; }", "try { h(11); say 99; } catch (e) { say e; } say now();",
            "try { try { g(); } catch (e) { fail e; } } catch (d) { say d; }"};
        int[][] due = {{7}, {7}, {0, 7}, {7, 0}, {7}};
        for (int i = 0; i < catchers.length; i++) {
            FreightYards x = Yards.fresh(catchers[i]);
            Yards.loaded(x, f + "to m() { " + catchers[i] + " }");
            Yards.due("run", 0, x.run(3, 0, 0, 500));
            said(x, due[i]);
        }
        FreightYards x = Yards.fresh("a call that is the first and the last of a try");
        Yards.loaded(x, f + "to m() { g(); try { say 1; } catch (e) { say 99; } } "
            + "to n() { try { say 1; } catch (e) { say 99; } g(); }");
        Yards.due("run", 6, x.run(3, 0, 0, 500));
        Yards.due("run", 6, x.run(4, 0, 0, 500));
        said(x, 1);
    }

    private static void catchNamesGetTheNumber() {
        Yards.sentence("its catch's NAME is 1 .. 5, of OWN the INT");
        says("try { say none.tag; } catch (e) { say e; }", 1);
        says("try { say new BOX[0][0]; } catch (e) { say e; }", 2);
        says("try { say new BOX[-1]; } catch (e) { say e; }", 3);
        says("try { say new BOX() as REEFER; } catch (e) { say e; }", 4);
        says("var VEHICLE[] r = new VAN[1]; try { r[0] = new BOX(); } catch (e) { say e; }", 5);
        says("try { fail 6; } catch (e) { say e; }", 6);
        says("try { fail -1; } catch (e) { say e; e = e * 2; say e; }", -1, -2);
    }

    private static void noTryTakesAnEnd() {
        Yards.sentence("ENDS, which no try takes");
        FreightYards x = Yards.fresh("in tries of two procs");
        Yards.loaded(x, "to f(INT n) { try { if (n == 7) { while (1) { } } if (n == 8) { say new BOX[41]; } f(9); } "
            + "catch (e) { say 99; } } to m(INT n) { try { try { f(n); } catch (d) { say 99; } } catch (e) { say 99; } }");
        Yards.due("run", 7, x.run(1, 7, 0, 2000));
        Yards.due("run", 8, x.run(1, 8, 0, 2000));
        Yards.due("run", 9, x.run(1, 9, 0, 2000));
        said(x);
        Yards.due("count(6)", 0, x.count(6));
    }

    /** An expression that leaves so many values waiting and then has a fault. */
    private static String manyWaiting(int n) {
        return "1 + (".repeat(n) + "none.tag" + ")".repeat(n);
    }

    private static void waitingValuesAreGone() {
        Yards.sentence("The innermost try .. takes it: what was being worked out is gone");
        String g = "g(1, 2, 3 < 4 + 5 * ";
        String deepest = "to g(INT a, INT b, INT c): INT { return 0; } to m(INT n): INT { var INT s = 0; while (s < n) { "
            + "s = s + 1; try { say " + g.repeat(10) + "none.tag" + ")".repeat(10) + "; } catch (e) { } } return s; }";
        FreightYards x = Yards.fresh("many times in one run");
        Yards.loaded(x, deepest);
        Yards.due("run", 0, x.run(1, 33, 0, 2000));
        Yards.due("told(1)", 33, x.told(1));
        Yards.sentence("ENDS: what was being worked out is gone");
        x = Yards.fresh("many runs that end");
        Yards.loaded(x, "to m(INT a, INT b): INT { if (a == 0) { return b; } return " + "1 + (".repeat(9) + "m(a - 1, b)"
            + ")".repeat(9) + "; }");
        for (int i = 0; i < 100; i++) {
            Yards.due("run", 9, x.run(0, 15, 5, 2000));
            Yards.due("run", 7, x.run(0, 14, 5, 190));
        }
        Yards.due("run", 0, x.run(0, 14, 5, 2000));
        Yards.due("told(1)", 131, x.told(1));
        x = Yards.fresh("faults that come out");
        for (int i = 0; i < 60; i++) {
            Yards.due("run", 1, run(x, "say " + manyWaiting(10) + ";", 0, 0, 99));
        }
        Yards.due("run", 0, run(x, "say " + manyWaiting(10).replace("none.tag", "b") + ";", 0, 7, 99));
        said(x, 17);
    }

    private static final String MAKES = "to v(INT n) { while (0 < n) { new BOX().tag = n; n = n - 1; } } "
        + "to r(INT n, INT k) { while (0 < n) { if (new BOX[k] == none) { } n = n - 1; } } "
        + "to tv(INT n) { try { v(n); } catch (e) { say 99; } } "
        + "to tr(INT n, INT k) { try { r(n, k); } catch (e) { say 99; } } "
        + "to f(INT n) { while (0 < n) { try { fail n; } catch (e) { } n = n - 1; } } ";

    private static FreightYards making(String name) {
        FreightYards x = Yards.fresh(name);
        Yards.loaded(x, MAKES);
        return x;
    }

    private static void threeHundredVehicles() {
        Yards.sentence("8 ROOM (a 301st VEHICLE)");
        FreightYards x = making("vehicles");
        Yards.due("run", 0, x.run(0, 150, 0, 2000));
        Yards.due("run", 0, x.run(0, 150, 0, 2000));
        Yards.due("count(1)", 300, x.count(1));
        Yards.due("the 301st", 8, x.run(0, 1, 0, 2000));
        Yards.due("told(6)", MAKES.indexOf("new BOX().tag"), x.told(6));
        Yards.due("in a try", 8, x.run(2, 1, 0, 2000));
        Yards.due("count(1)", 300, x.count(1));
        Yards.due("vehicle(299, 0)", 5, x.vehicle(299, 0));
        for (int what = -1; what <= 10; what++) {
            Yards.due("vehicle(300, " + what + ")", -1, x.vehicle(300, what));
        }
        Yards.due("rows still have room", 0, x.run(1, 1, 40, 2000));
        said(x);
    }

    private static void twoHundredRows() {
        Yards.sentence("a 201st ROW");
        FreightYards x = making("rows");
        Yards.due("run", 0, x.run(1, 100, 0, 2000));
        Yards.due("run", 0, x.run(1, 100, 10, 2000));
        Yards.due("count(2)", 200, x.count(2));
        Yards.due("count(3)", 1000, x.count(3));
        Yards.due("the 201st", 8, x.run(1, 1, 0, 2000));
        Yards.due("told(6)", MAKES.indexOf("new BOX[k]"), x.told(6));
        Yards.due("in a try", 8, x.run(3, 1, 1, 2000));
        Yards.due("count(2)", 200, x.count(2));
        Yards.due("count(3)", 1000, x.count(3));
        Yards.due("vehicles still have room", 0, x.run(0, 1, 0, 2000));
        said(x);
    }

    private static void twoThousandPlaces() {
        Yards.sentence("the 2,001st place of ROWS");
        FreightYards x = making("places");
        Yards.due("run", 0, x.run(1, 49, 40, 2000));
        Yards.due("run", 0, x.run(1, 1, 39, 2000));
        Yards.due("1999 and 2", 8, x.run(1, 1, 2, 2000));
        Yards.due("1999 and 40", 8, x.run(3, 1, 40, 2000));
        Yards.due("count(2)", 50, x.count(2));
        Yards.due("count(3)", 1999, x.count(3));
        Yards.due("the 2,000th", 0, x.run(1, 1, 1, 2000));
        Yards.due("count(3)", 2000, x.count(3));
        Yards.due("the 2,001st", 8, x.run(1, 1, 1, 2000));
        Yards.due("rows of none", 0, x.run(1, 10, 0, 2000));
        Yards.due("count(2)", 61, x.count(2));
        Yards.due("count(3)", 2000, x.count(3));
        said(x);
    }

    private static void fortyPlaces() {
        Yards.sentence("a ROW of more than 40 places");
        FreightYards x = making("one row");
        Yards.due("40", 0, x.run(1, 1, 40, 2000));
        Yards.due("41", 8, x.run(1, 1, 41, 2000));
        Yards.due("41 in a try", 8, x.run(3, 1, 41, 2000));
        Yards.due("the most", 8, x.run(1, 1, MOST, 2000));
        Yards.due("the most less 1", 8, x.run(1, 1, MOST - 1, 2000));
        Yards.due("count(2)", 1, x.count(2));
        Yards.due("count(3)", 40, x.count(3));
        said(x);
    }

    private static FreightYards withSixHundredFaults() {
        FreightYards x = making("600 faults");
        for (int i = 0; i < 5; i++) {
            Yards.due("run", 0, x.run(4, 120, 0, 2000));
        }
        Yards.due("count(6)", 600, x.count(6));
        return x;
    }

    private static void sixHundredFaults() {
        Yards.sentence("a 601st FAULT (it does not come out any more)");
        String[] faulty = {"say none.~tag;", "say new BOX[1]~[1];", "say ~new BOX[-1];", "say new BOX() ~as REEFER;",
            "var VEHICLE[] r = new TANK[1]; r[0] ~= new BOX();", "~fail 7;", "~send(none, 1, 1);"};
        FreightYards x = withSixHundredFaults();
        for (String marked : faulty) {
            String statements = marked.replace("~", "");
            Yards.due(statements, 8, run(x, statements, 0, 0, 99));
            Yards.due("told(0)", 8, x.told(0));
            Yards.due("told(5)", 0, x.told(5));
            Yards.due("told(6)", HEAD.length() + marked.indexOf('~'), x.told(6));
            Yards.due("in a try", 8, run(x, "try { " + statements + " } catch (e) { say 99; }", 0, 0, 99));
            Yards.due("count(6)", 600, x.count(6));
        }
        said(x);
        Yards.due("the 600th came out", 0, run(x, "say 1;", 0, 0, 99));
        Yards.due("no fuel", 7, run(x, "say none.tag;", 0, 0, 1));
        Yards.due("deep", 9, run(x, "m(a, b);", 0, 0, 99));
        x = making("the 600th");
        for (int i = 0; i < 5; i++) {
            x.run(4, i == 4 ? 119 : 120, 0, 2000);
        }
        Yards.due("count(6)", 599, x.count(6));
        Yards.due("the 600th", 6, run(x, "fail 7;", 0, 0, 99));
        Yards.due("told(5)", 7, x.told(5));
        Yards.due("the 601st", 8, run(x, "fail 7;", 0, 0, 99));
    }

    private static void roomGoesAheadOfSize() {
        Yards.sentence("at their ACT, ahead of 3 but for the last one");
        FreightYards x = making("200 rows");
        Yards.due("run", 0, x.run(1, 100, 0, 2000));
        Yards.due("run", 0, x.run(1, 99, 0, 2000));
        Yards.due("199 rows, a size of -1", 3, x.run(1, 1, -1, 2000));
        Yards.due("run", 0, x.run(1, 1, 0, 2000));
        Yards.due("200 rows, a size of -1", 8, x.run(1, 1, -1, 2000));
        Yards.due("200 rows, the least size", 8, x.run(1, 1, LEAST, 2000));
        Yards.due("count(6)", 1, x.count(6));
        x = making("2,000 places");
        Yards.due("run", 0, x.run(1, 50, 40, 2000));
        Yards.due("a size of -1 has no 2,001st place", 3, x.run(1, 1, -1, 2000));
        Yards.due("nor has the least", 3, x.run(1, 1, LEAST, 2000));
        x = withSixHundredFaults();
        Yards.due("600 faults, a size of -1", 8, x.run(1, 1, -1, 2000));
        Yards.due("600 faults, a size of 41", 8, x.run(1, 1, 41, 2000));
        Yards.due("count(6)", 600, x.count(6));
        Yards.due("600 faults, a size of 0", 0, x.run(1, 1, 0, 2000));
    }

    private static void roomIsOfTheObjectsLife() {
        Yards.sentence("all of the object's life");
        FreightYards x = making("over runs that end and other texts");
        for (int i = 0; i < 3; i++) {
            Yards.due("run that ends", 7, x.run(0, 2000, 0, 1000));
            Yards.loaded(x, MAKES);
        }
        int made = x.count(1);
        Yards.due("many are made", true, made > 250 && made < 300);
        Yards.due("run", 0, x.run(0, 300 - made, 0, 2000));
        Yards.due("the 301st", 8, x.run(0, 1, 0, 2000));
        Yards.due("another object has its own", 0, making("another").run(0, 1, 0, 2000));
    }

    private static void fifteenProcsDeep() {
        Yards.sentence("9 DEEP (a 16th PROC of the text CALLED within one another; the PROC that is run is the first)");
        String text = "to m(INT n): INT { now(); if (n == 1) { lay(track(0) == none, none); return now() + 1; } "
            + "return 1 + m(n - 1); } to two(INT n): INT { return m(n) + m(n); } "
            + "to a(INT n): INT { if (n == 1) { return 1; } return 1 + m(n - 1); } to w(INT n) { try { say m(n); } "
            + "catch (e) { say 99; } }";
        FreightYards x = Yards.fresh("deep");
        Yards.loaded(x, text);
        for (int n = 1; n <= 17; n++) {
            Yards.due("run " + n + " deep", n <= 15 ? 0 : 9, x.run(0, n, 0, 2000));
            Yards.due("told(1)", n <= 15 ? n : 0, x.told(1));
            Yards.due("told(6)", n <= 15 ? -1 : text.indexOf("m(n - 1)"), x.told(6));
        }
        Yards.due("twice 15 deep", 0, x.run(1, 14, 0, 2000));
        Yards.due("told(1)", 28, x.told(1));
        Yards.due("16 deep", 9, x.run(1, 15, 0, 2000));
        Yards.due("15 deep over two procs", 0, x.run(2, 15, 0, 2000));
        Yards.due("16 deep over two procs", 9, x.run(2, 16, 0, 2000));
        Yards.due("16 deep in a try", 9, x.run(3, 15, 0, 2000));
        said(x);
        Yards.due("15 deep in a try", 0, x.run(3, 14, 0, 2000));
        said(x, 14);
        Yards.sentence("9 DEEP: procs that a fault has left count no more");
        x = Yards.fresh("many faults in depth");
        Yards.loaded(x, "to f(INT n) { if (n == 1) { fail 1; } f(n - 1); } "
            + "to m(INT n): INT { var INT s = 0; while (s < 5) { try { f(n); } catch (e) { s = s + e; } } f(0 - 0 * n); }");
        Yards.due("run", 9, x.run(1, 14, 0, 2000));
        Yards.due("count(6)", 5, x.count(6));
    }

    private static void whatIsSomething() {
        Yards.sentence("is: 1 if it is something that is BELOW the TYPE, else 0");
        says("say new BOX() is BOX; say new BOX() is REEFER; say new REEFER() is BOX; say none is BOX; "
            + "var BOX c = none; say c is BOX; say new BOX[1][0] is BOX; say new BOX[0] is BOX[]; say new BOX[0] is HOLDS[]; "
            + "say new HOLDS[0] is BOX[]; say new BOX[0] is REEFER[];", 1, 0, 1, 0, 0, 0, 1, 1, 0, 0);
    }

    private static void sameThings() {
        Yards.sentence("== of REFERENCES: the same thing, or both NOTHING");
        says("var BOX c = new BOX(); var BOX d = new BOX(); say c == c; say c == d; say c != c; say c != d; say c == none; "
            + "say none == c; say none == none; say none != none; c = none; d = none; say c == d; say c != d;",
            1, 0, 0, 1, 0, 0, 1, 0, 1, 0);
        says("var BOX[] r = new BOX[0]; var HOLDS[] s = r; say r == s; say r == new BOX[0]; say r != none; "
            + "say new BOX() == r; say new BOX[1] == new BOX[1]; say track(0) == track(9);", 1, 0, 1, 0, 0, 1);
        says("say 0 == 0; say -1 == 1; say 1 != 1; say 0 - 1 == -1;", 1, 0, 0, 1);
    }

    private static void sizesOfRows() {
        Yards.sentence("size: how many places");
        says("say new BOX[0].size; say new BOX[1].size; say new HOLDS[40].size;", 0, 1, 40);
    }

    private static void endsWithoutReturn() {
        Yards.sentence("A PROC with : that comes to its end without return gives 0, or NOTHING");
        FreightYards x = Yards.fresh("as parts of others");
        Yards.loaded(x, "to i(INT n): INT { if (n) { return 5; } } to v(INT n): VEHICLE { while (n) { return new BOX(); } } "
            + "to r(INT n): HOLDS[] { try { if (n) { return new BOX[1]; } } catch (e) { } } "
            + "to m(INT n) { say i(n); say v(n); say r(n); say i(n) + 1; say v(n) == none; }");
        Yards.due("run", 0, x.run(3, 0, 0, 99));
        said(x, 0, -1000, -1000, 1, 1);
        Yards.due("run", 0, x.run(3, 1, 0, 99));
        said(x, 0, -1000, -1000, 1, 1, 5, 0, -2, 6, 0);
        for (int p = 0; p < 3; p++) {
            Yards.due("run", 0, x.run(p, 0, 0, 99));
            Yards.due("told(1)", 0, x.told(1));
            Yards.due("told(2)", -1, x.told(2));
            Yards.due("told(3)", -1, x.told(3));
        }
    }

    private static void saidNumbers() {
        Yards.sentence("say: one more of WHAT IS SAID: an INT, or the NUMBER of a VEHICLE, -1 less how many places, of a ROW "
            + "(-1 - n), -1000 for NOTHING");
        FreightYards x = Yards.fresh("of all sorts");
        Yards.due("run", 0, run(x, "say a; say b; say 0; say new BOX(); say new VAN(); say new BOX[0]; say new HOLDS[1]; "
            + "say new BOX[40]; say none; say track(3); say new BOX().behind; say -1000;", LEAST, MOST, 99));
        said(x, LEAST, MOST, 0, 0, 1, -1, -2, -41, -1000, -1000, -1000, -1000);
    }

    private static void threeHundredSaid() {
        Yards.sentence("(300 are kept in all)");
        FreightYards x = Yards.fresh("said");
        String says = "while (a < b) { say a; a = a + 1; }";
        Yards.due("run", 0, run(x, says, 0, 150, 2000));
        Yards.due("run", 0, run(x, says, 150, 299, 2000));
        Yards.due("count(7)", 299, x.count(7));
        Yards.due("said(298)", 298, x.said(298));
        Yards.due("said(299)", 0, x.said(299));
        Yards.due("run", 0, run(x, "say 299; say 77;", 0, 0, 4));
        Yards.due("told(4)", 0, x.told(4));
        Yards.due("count(7)", 300, x.count(7));
        Yards.due("said(299)", 299, x.said(299));
        Yards.due("said(300)", 0, x.said(300));
        Yards.due("run", 0, run(x, "say none; say new BOX(); say new BOX[1];", 0, 0, 99));
        Yards.due("count(7)", 300, x.count(7));
        for (int i = 0; i < 300; i++) {
            Yards.due("said(" + i + ")", i, x.said(i));
        }
    }

    private static void whatIsLookedAt() {
        Yards.sentence("if ( E ) BLOCK [ else BLOCK ], while ( E ) BLOCK: 0 is no, all else is yes");
        FreightYards x = Yards.fresh("if and while");
        Yards.loaded(x, "to m(INT a): INT { if (a) { return 1; } return 0; } "
            + "to n(INT a): INT { if (a) { return 1; } else { return 2; } } "
            + "to w(INT a): INT { while (a) { return 1; } return 0; }");
        for (int a : new int[] {0, 1, -1, 2, MOST, LEAST}) {
            x.run(0, a, 0, 9);
            Yards.due("if " + a, a == 0 ? 0 : 1, x.told(1));
            x.run(1, a, 0, 9);
            Yards.due("if else " + a, a == 0 ? 2 : 1, x.told(1));
            x.run(2, a, 0, 9);
            Yards.due("while " + a, a == 0 ? 0 : 1, x.told(1));
        }
    }
}
