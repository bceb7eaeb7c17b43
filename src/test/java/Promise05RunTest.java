/** Promise 5: what run() answers; by part III of the document, acts, faults and ends. */
public final class Promise05RunTest {
    public static void main(String[] args) {
        refuses();
        givesParameters();
        costs();
        control();
        reckons();
        references();
        faults();
        catches();
        leavesNothingHalfDone();
        dropsWhatNobodyTakes();
        ends();
        deep();
        manyWait();
        rooms();
        manyFaults();
        Yards.end();
    }

    private static void refuses() {
        FreightYards x = Yards.fresh("refused");
        Yards.due("run without a text", -1, x.run(0, 0, 0, 10));
        Yards.loaded(x, "to a() { } to b(INT x, INT y) { } to c(INT x, INT y, INT z) { } to d(BOX b) { } "
            + "to e(INT x, BOX[] b) { } to f(INT x, INT y, BOX b) { } to g(INT x) { }");
        Yards.due("run(-1)", -1, x.run(-1, 0, 0, 10));
        Yards.due("run(7)", -1, x.run(7, 0, 0, 10));
        Yards.due("run(max)", -1, x.run(Integer.MAX_VALUE, 0, 0, 10));
        Yards.due("run of three ints", -1, x.run(2, 0, 0, 10));
        Yards.due("run of a box", -1, x.run(3, 0, 0, 10));
        Yards.due("run of an int and a row", -1, x.run(4, 0, 0, 10));
        Yards.due("run of two ints and a box", -1, x.run(5, 0, 0, 10));
        Yards.due("told(0) ahead of any", -1, x.told(0));
        Yards.due("run with fuel -1", -1, x.run(0, 0, 0, -1));
        Yards.due("run with fuel 2001", -1, x.run(0, 0, 0, 2001));
        Yards.due("run with fuel 2000", 0, x.run(0, 0, 0, 2000));
        Yards.due("told(4)", 2000, x.told(4));
        Yards.due("run with fuel 0", 0, x.run(0, 0, 0, 0));
        Yards.due("run of two", 0, x.run(1, 5, 6, 0));
        Yards.due("run of one", 0, x.run(6, 5, 6, 0));
        Yards.due("run refused", -1, x.run(2, 5, 6, 7));
        Yards.due("told(4) is of the one before", 0, x.told(4));
    }

    private static void givesParameters() {
        FreightYards x = Yards.fresh("parameters");
        Yards.loaded(x, "to a(INT x, INT y): INT { return x * 100 + y; } to b(INT y): INT { y = y + 1; return y; }");
        x.run(0, 7, 8, 9);
        Yards.due("told(1)", 708, x.told(1));
        x.run(1, 7, 8, 9);
        Yards.due("told(1)", 8, x.told(1));
        x.run(0, Integer.MIN_VALUE, -1, 9);
        Yards.due("told(1)", -1, x.told(1));
    }

    /** A proc's statements cost so many acts, and with one less they end for want of fuel. */
    private static void cost(int acts, String statements) {
        FreightYards x = Yards.fresh(statements);
        String text = "to f(INT a): INT { } to g() { } to m() { var VEHICLE v = new BOX(); var BOX b = new BOX(); "
            + "var BOX[] r = new BOX[2]; " + statements + " }";
        Yards.loaded(x, text);
        int head = 7;
        Yards.due("run with enough", 0, x.run(2, 0, 0, head + acts));
        Yards.due("told(4)", 0, x.told(4));
        Yards.due("run with one more", 0, x.run(2, 0, 0, head + acts + 1));
        Yards.due("told(4)", 1, x.told(4));
        if (acts > 0) {
            Yards.due("run with one less", 7, x.run(2, 0, 0, head + acts - 1));
            Yards.due("told(4)", 0, x.told(4));
        }
    }

    private static void costs() {
        cost(0, "");
        cost(2, "say 1;");
        cost(2, "say -1;");
        cost(2, "say none;");
        cost(2, "say b;");
        cost(2, "say (((b)));");
        cost(4, "say 1 + 2;");
        cost(6, "say 1 + 2 * 3;");
        cost(4, "say 1 == 2;");
        cost(3, "say b is REEFER;");
        cost(3, "say v as BOX;");
        cost(4, "say r[0];");
        cost(3, "say b.tag;");
        cost(3, "say b.mass;");
        cost(3, "say r.size;");
        cost(2, "say new VAN();");
        cost(3, "say new VAN[2];");
        cost(2, "var INT x = 1;");
        cost(2, "b = none;");
        cost(3, "b.load = 1;");
        cost(9, "v.behind = b; v.behind.tag = 1; g(); g();");
        cost(4, "r[0] = b;");
        cost(4, "r[1] = none;");
        cost(2, "f(1);");
        cost(1, "g();");
        cost(3, "say f(1);");
        cost(1, "now();");
        cost(2, "track(1);");
        cost(3, "lay(1, r);");
        cost(3, "hump(r, r);");
        cost(4, "send(r, 1, 1);");
        cost(2, "if (1) { }");
        cost(4, "if (1) { say 1; } else { say 2; say 3; }");
        cost(6, "if (0) { say 1; } else { say 2; say 3; }");
        cost(2, "while (0) { say 1; }");
        cost(0, "try { } catch (e) { }");
        cost(2, "try { say 1; } catch (e) { say 2; }");
        cost(4, "try { fail 3; } catch (e) { say 2; }");
        cost(4, "try { none.tag = 1; } catch (e) { g(); }");
        cost(2, "try { say none.tag; } catch (e) { }");
        cost(1, "return; say 1;");
        cost(16, "var INT i = 2; while (i) { i = i - 1; }");
    }

    private static int given(String text) {
        FreightYards x = Yards.fresh(text);
        Yards.loaded(x, text);
        Yards.due("run", 0, x.run(0, 3, 4, 2000));
        return x.told(1);
    }

    private static void control() {
        Yards.due("given", 10, given("to m(INT x): INT { var INT s = 0; var INT i = 0; "
            + "while (i < 5) { s = s + i; i = i + 1; } return s; }"));
        Yards.due("given", 1, given("to m(): INT { if (-5) { return 1; } else { return 2; } }"));
        Yards.due("given", 2, given("to m(): INT { if (0) { return 1; } else { return 2; } }"));
        Yards.due("given", 3, given("to m(): INT { if (0) { return 1; } return 3; }"));
        Yards.due("given", 0, given("to m(): INT { if (0) { return 1; } }"));
        Yards.due("given", 6, given("to m(): INT { var INT s = 1; if (1) { s = 2; } else { s = 9; } s = s * 3; return s; }"));
        Yards.due("given", 27, given("to m(): INT { var INT s = 1; if (0) { s = 2; } else { s = 9; } s = s * 3; return s; }"));
        Yards.due("given", 5, given("to m(INT x): INT { while (1) { if (x == 5) { return x; } x = x + 1; } }"));
        Yards.due("given", 7, given("to m(INT x, INT y): INT { if (x == 0) { return y; } return m(x - 1, y + 1); }"));
        Yards.due("given", 7, given("to m(INT x): INT { var INT y = 1; if (x < 5) { y = y + m(x + 1); "
            + "y = y + m(x + 1); } return y; }"));
    }

    private static void reckons() {
        Yards.due("given", 7, given("to m(): INT { return 1 + 2 * 3; }"));
        Yards.due("given", -4, given("to m(): INT { return 1 - 2 - 3; }"));
        Yards.due("given", 2, given("to m(): INT { return 1 - (2 - 3); }"));
        Yards.due("given", 9, given("to m(): INT { return (1 + 2) * 3; }"));
        Yards.due("given", 1, given("to m(): INT { return 1 + 1 == 2; }"));
        Yards.due("given", 0, given("to m(): INT { return 1 != 1; }"));
        Yards.due("given", 1, given("to m(): INT { return -1 < 0; }"));
        Yards.due("given", 0, given("to m(): INT { return 0 < 0; }"));
        Yards.due("given", -2147483648, given("to m(): INT { return 999999999 * 2 + 147483649 + 1; }"));
        Yards.due("given", 999999999 * 999999999, given("to m(): INT { return 999999999 * 999999999; }"));
        Yards.due("given", 3, given("to m(): INT { return 1 - -2; }"));
    }

    private static void references() {
        Yards.due("given", 1, given("to m(): INT { var BOX b = new BOX(); var VEHICLE v = b; return v == b; }"));
        Yards.due("given", 0, given("to m(): INT { return new BOX() == new BOX(); }"));
        Yards.due("given", 1, given("to m(): INT { return none == none; }"));
        Yards.due("given", 0, given("to m(): INT { return new BOX[1] == new BOX(); }"));
        Yards.due("given", 1, given("to m(): INT { var BOX[] r = new BOX[1]; return r[0] == none; }"));
        Yards.due("given", 1, given("to m(): INT { return new BOX[0] != new BOX[0]; }"));
        Yards.due("given", 0, given("to m(): INT { return (none as BOX) is BOX; }"));
        Yards.due("given", 1, given("to m(): INT { var VEHICLE[] r = new REEFER[1]; return r is HOLDS[]; }"));
        Yards.due("given", 0, given("to m(): INT { var VEHICLE[] r = new WAGON[1]; return r is HOLDS[]; }"));
        Yards.due("given", 0, given("to m(): INT { return new WAGON[0] is BOX[]; }"));
        Yards.due("given", 1, given("to m(): INT { var HOLDS h = new REEFER(); return h is BURNS; }"));
        Yards.due("given", 4, given("to m(): INT { var VEHICLE v = new BOX(); v.tag = 4; var BOX b = v as BOX; "
            + "return b.tag; }"));
        Yards.due("given", 6, given("to m(): INT { var BOX[] r = new BOX[3]; var VEHICLE[] s = r; s[2] = new BOX(); "
            + "r[2].load = 6; return s[2] as BOX.load; }"));
        Yards.due("given", 40, given("to m(): INT { return new BOX[40].size; }"));
    }

    private static void comesOut(int fault, String statements, String at) {
        FreightYards x = Yards.fresh(statements);
        String text = "to m() { " + statements + " }";
        Yards.loaded(x, text);
        Yards.due("run", fault, x.run(0, 0, 0, 500));
        Yards.due("told(0)", fault, x.told(0));
        Yards.due("told(6)", text.lastIndexOf(at), x.told(6));
        Yards.due("count(6)", fault < 7 ? 1 : 0, x.count(6));
    }

    private static void faults() {
        comesOut(1, "var BOX b = none; say b.tag;", "tag");
        comesOut(1, "var BOX b = none; b.tag = 5;", "= 5");
        comesOut(1, "var BOX b = none; say b.mass;", "mass");
        comesOut(1, "say none.behind;", "behind");
        comesOut(1, "var BOX[] r = none; say r.size;", "size");
        comesOut(1, "var BOX[] r = none; say r[0];", "[0]");
        comesOut(1, "var BOX[] r = none; r[0] = none;", "= none");
        comesOut(1, "hump(none, new BOX[1]);", "hump");
        comesOut(1, "hump(new BOX[1], none);", "hump");
        comesOut(1, "send(none, 1, 1);", "send");
        comesOut(1, "send(none, 9, 0);", "send");
        comesOut(2, "say new BOX[2][2];", "[2]");
        comesOut(2, "say new BOX[2][-1];", "[-1]");
        comesOut(2, "say new BOX[0][0];", "[0]");
        comesOut(2, "var BOX[] r = new BOX[2]; r[2] = none;", "= none");
        comesOut(2, "var VEHICLE[] r = new BOX[2]; r[2] = new VAN();", "= new VAN");
        comesOut(3, "say new BOX[-1];", "new");
        comesOut(4, "var VEHICLE v = new BOX(); say v as REEFER;", "as");
        comesOut(4, "var BOX b = new BOX(); say b as COOLS;", "as");
        comesOut(4, "var VEHICLE[] r = new WAGON[1]; say r as BOX[];", "as");
        comesOut(4, "var HOLDS[] r = new HOLDS[1]; say r as VEHICLE[];", "as");
        comesOut(5, "var VEHICLE[] r = new TANK[2]; r[1] = new BOX();", "= new BOX");
        comesOut(5, "var HOLDS[] r = new REEFER[2]; r[1] = new BOX();", "= new BOX");
        comesOut(6, "fail 77;", "fail");
        comesOut(6, "fail 0;", "fail");
        Yards.due("given", 1, given("to m(): INT { var VEHICLE v = none; var BOX b = v as BOX; return b == none; }"));
        Yards.due("given", 1, given("to m(): INT { var VEHICLE[] r = new TANK[2]; r[1] = none; return 1; }"));
    }

    private static void catches() {
        Yards.due("given", 1, given("to m(): INT { try { say none.tag; } catch (e) { return e; } return 0; }"));
        Yards.due("given", 2, given("to m(): INT { try { say new BOX[1][1]; } catch (e) { return e; } return 0; }"));
        Yards.due("given", 3, given("to m(): INT { try { say new BOX[-1]; } catch (e) { return e; } return 0; }"));
        Yards.due("given", -9, given("to m(): INT { try { fail -9; } catch (e) { return e; } return 0; }"));
        Yards.due("given", 21, given("to m(): INT { try { try { fail 1; } catch (e) { fail 20 + e; } } "
            + "catch (f) { return f; } return 0; }"));
        Yards.due("given", 5, given("to m(): INT { try { try { say 1; } catch (e) { return 4; } fail 5; } "
            + "catch (f) { return f; } return 0; }"));
        Yards.due("given", 8, given("to m(): INT { var INT x = 1; try { x = 8; fail 2; x = 9; } catch (e) { } "
            + "return x; }"));
        FreightYards x = Yards.fresh("a try in another proc");
        Yards.loaded(x, "to f(INT n) { if (n == 0) { fail 30; } f(n - 1); } "
            + "to g(INT n): INT { try { f(n); return 1; } catch (e) { return e; } } "
            + "to h(): INT { var INT s = 3 + g(4) + g(0) * 2; try { fail 1; } catch (e) { s = s + e; } return s; } "
            + "to k(): INT { try { return 5; } catch (e) { } } "
            + "to l(): INT { var INT r = 1 + k(); fail 6; } "
            + "to n(INT x): INT { if (x) { try { f(0); } catch (e) { return e; } } f(0); try { say 1; } catch (e) { } }");
        Yards.due("a call at a try's end", 0, x.run(5, 1, 0, 500));
        Yards.due("told(1)", 30, x.told(1));
        Yards.due("a call ahead of a try", 6, x.run(5, 0, 0, 500));
        Yards.due("run(1)", 0, x.run(1, 5, 0, 500));
        Yards.due("told(1)", 30, x.told(1));
        Yards.due("run(2)", 0, x.run(2, 0, 0, 500));
        Yards.due("told(1)", 94, x.told(1));
        Yards.due("count(6)", 6, x.count(6));
        Yards.due("a try that was left is not under way", 6, x.run(4, 0, 0, 500));
        Yards.due("told(5)", 6, x.told(5));
        Yards.due("run(0)", 6, x.run(0, 3, 0, 500));
        Yards.due("told(5)", 30, x.told(5));
    }

    private static void leavesNothingHalfDone() {
        FreightYards x = Yards.fresh("a fault's act has done nothing else");
        Yards.loaded(x, "to m() { var VEHICLE[] r = new BOX[2]; r[0] = new BOX(); lay(0, r); r[0] = new VAN(); }");
        Yards.due("run", 5, x.run(0, 0, 0, 99));
        Yards.due("place(0, 0)", 0, x.place(0, 0));
        Yards.due("count(1): the value was worked out", 2, x.count(1));
        Yards.loaded(x, "to m() { say new BOX[-1]; }");
        Yards.due("run", 3, x.run(0, 0, 0, 99));
        Yards.due("count(2)", 1, x.count(2));
        Yards.due("count(3)", 2, x.count(3));
        Yards.due("count(7)", 0, x.count(7));
    }

    /** What a call gives and nothing takes must not pile up. */
    private static void dropsWhatNobodyTakes() {
        String many = "now(); ".repeat(60);
        Yards.due("given", 43, given("to f(INT n): INT { var INT i = 0; while (i < 28) { " + many
            + "i = i + 1; } return i + 5 * n; }"));
    }

    private static void ends() {
        FreightYards x = Yards.fresh("no try takes an end");
        Yards.loaded(x, "to m() { try { while (1) { say 4; } } catch (e) { say 99; } } to n() { try { n(); } "
            + "catch (e) { say 99; } } to o() { try { say new BOX[41]; } catch (e) { say 99; } }");
        Yards.due("run(0)", 7, x.run(0, 0, 0, 11));
        Yards.due("count(7)", 2, x.count(7));
        Yards.due("run(1)", 9, x.run(1, 0, 0, 100));
        Yards.due("run(2)", 8, x.run(2, 0, 0, 100));
        Yards.due("count(7)", 2, x.count(7));
        Yards.due("count(6)", 0, x.count(6));
        comesOut(8, "say new BOX[41];", "new");
        comesOut(8, "say new BOX[999999999];", "new");
        Yards.due("fuel goes ahead of a fault", 7, spent("to m() { say none.tag; }", 1));
        Yards.due("fuel goes ahead of deep", 7, spent("to m() { m(); }", 14));
        Yards.due("deep", 9, spent("to m() { m(); }", 15));
    }

    private static int spent(String text, int fuel) {
        FreightYards x = Yards.fresh(text);
        Yards.loaded(x, text);
        return x.run(0, 0, 0, fuel);
    }

    private static void deep() {
        FreightYards x = Yards.fresh("deep");
        String text = "to m(INT n): INT { if (n == 1) { now(); return 1; } return 1 + m(n - 1); }";
        Yards.loaded(x, text);
        Yards.due("run 15 deep", 0, x.run(0, 15, 0, 500));
        Yards.due("told(1)", 15, x.told(1));
        Yards.due("run 16 deep", 9, x.run(0, 16, 0, 500));
        Yards.due("told(0)", 9, x.told(0));
        Yards.due("told(6)", text.indexOf("m(n - 1)"), x.told(6));
        Yards.due("run 15 deep again", 0, x.run(0, 15, 0, 500));
    }

    /** Brackets ten deep in calls ten deep leave many values waiting. */
    private static void manyWait() {
        String e = "f(a - 1, b, c + 1, 7)";
        for (int k = 0; k < 9; k++) {
            e = (k == 8 ? "4" : "1") + " + 2 * f(0, 5, " + (k + 3) + ", " + e + ")";
        }
        FreightYards x = Yards.fresh("many values wait");
        Yards.loaded(x, "to f(INT a, INT b, INT c, INT d): INT { if (a < 1) { return c * 3 + d + b; } "
            + "return 9 - 2 * (a) + " + e + "; } to m(INT a, INT b): INT { return f(a, b, 1, 2); }");
        Yards.due("run", 0, x.run(1, 9, 63, 2000));
        Yards.due("told(1)", 1327467425, x.told(1));
        Yards.due("told(4)", 182, x.told(4));
        Yards.due("run", 9, x.run(1, 14, 98, 2000));
    }

    private static void rooms() {
        FreightYards x = Yards.fresh("300 vehicles");
        Yards.loaded(x, "to m(INT n) { while (0 < n) { new BOX().tag = n; n = n - 1; } } "
            + "to r(INT n, INT k) { while (0 < n) { say new BOX[k]; n = n - 1; } }");
        Yards.due("run", 0, x.run(0, 180, 0, 2000));
        Yards.due("run", 0, x.run(0, 120, 0, 2000));
        Yards.due("count(1)", 300, x.count(1));
        Yards.due("run", 8, x.run(0, 1, 0, 2000));
        Yards.due("count(1)", 300, x.count(1));
        Yards.due("vehicle(299, 1)", 1, x.vehicle(299, 1));
        Yards.due("rows of none", 0, x.run(1, 100, 0, 2000));
        Yards.due("49 rows of 40", 0, x.run(1, 49, 40, 2000));
        Yards.due("count(3)", 1960, x.count(3));
        Yards.due("a row of 41", 8, x.run(1, 1, 41, 2000));
        Yards.due("two rows of 39: the second is too much", 8, x.run(1, 2, 39, 2000));
        Yards.due("count(3)", 1999, x.count(3));
        Yards.due("one of 2", 8, x.run(1, 1, 2, 2000));
        Yards.due("one of 1", 0, x.run(1, 1, 1, 2000));
        Yards.due("one of 1", 8, x.run(1, 1, 1, 2000));
        Yards.due("count(2)", 151, x.count(2));
        Yards.due("one of -1: a fault", 3, x.run(1, 1, -1, 2000));
        Yards.due("49 of 0", 0, x.run(1, 49, 0, 2000));
        Yards.due("count(2)", 200, x.count(2));
        Yards.due("one of 0", 8, x.run(1, 1, 0, 2000));
        Yards.due("one of -1: no room goes ahead", 8, x.run(1, 1, -1, 2000));
        Yards.due("one of min", 8, x.run(1, 1, Integer.MIN_VALUE, 2000));
        Yards.due("count(2)", 200, x.count(2));
        Yards.due("count(6)", 1, x.count(6));
    }

    private static void manyFaults() {
        FreightYards x = Yards.fresh("600 faults");
        String text = "to m(INT n): INT { while (0 < n) { try { fail 1; } catch (e) { n = n - e; } } return 5; } "
            + "to k() { say new BOX[-1]; }";
        Yards.loaded(x, text);
        for (int i = 0; i < 4; i++) {
            Yards.due("run", 0, x.run(0, 140, 0, 2000));
        }
        Yards.due("run", 0, x.run(0, 39, 0, 2000));
        Yards.due("run(1)", 3, x.run(1, 0, 0, 2000));
        Yards.due("count(6)", 600, x.count(6));
        Yards.due("the 601st", 8, x.run(0, 1, 0, 2000));
        Yards.due("told(0)", 8, x.told(0));
        Yards.due("told(5)", 0, x.told(5));
        Yards.due("told(6)", text.indexOf("fail"), x.told(6));
        Yards.due("count(6)", 600, x.count(6));
        Yards.due("a size below 0", 8, x.run(1, 0, 0, 2000));
        Yards.due("no fault", 0, x.run(0, 0, 0, 2000));
    }
}
