/** Promise 6: what is told of the latest run. */
public final class Promise06ToldTest {
    public static void main(String[] args) {
        tellsWhatIsGiven();
        tellsOtherEnds();
        tellsPlaces();
        tellsPlacesInOtherProcs();
        refusesOtherWhats();
        Yards.end();
    }

    private static void told(String text, int... due) {
        FreightYards x = Yards.fresh(text);
        Yards.loaded(x, text);
        Yards.due("run", due[0], x.run(0, 0, 0, 50));
        for (int what = 0; what < due.length; what++) {
            Yards.due("told(" + what + ")", due[what], x.told(what));
        }
    }

    private static void tellsWhatIsGiven() {
        told("to m() { }", 0, 0, -1, -1, 50, 0, -1);
        told("to m() { return; }", 0, 0, -1, -1, 49, 0, -1);
        told("to m(): INT { return 7; }", 0, 7, -1, -1, 48, 0, -1);
        told("to m(): INT { return -1; }", 0, -1, -1, -1, 48, 0, -1);
        told("to m(): INT { }", 0, 0, -1, -1, 50, 0, -1);
        told("to m(): BOX { }", 0, 0, -1, -1, 50, 0, -1);
        told("to m(): BOX { return none; }", 0, 0, -1, -1, 48, 0, -1);
        told("to m(): VEHICLE { return new VEHICLE(); }", 0, 0, 0, 0, 48, 0, -1);
        told("to m(): VEHICLE { new BOX().tag = 3; return new CRANE(); }", 0, 0, 12, 1, 45, 0, -1);
        told("to m(): HOLDS { return new REEFER(); }", 0, 0, 10, 0, 48, 0, -1);
        told("to m(): VEHICLE[] { return new VEHICLE[0]; }", 0, 0, 18, 0, 47, 0, -1);
        told("to m(): VEHICLE[] { return new CRANE[7]; }", 0, 0, 30, 7, 47, 0, -1);
        told("to m(): BURNS[] { return new BURNS[7]; }", 0, 0, 35, 7, 47, 0, -1);
    }

    private static void tellsOtherEnds() {
        told("to m(): INT { fail 70; }", 6, 0, -1, -1, 48, 70, 14);
        told("to m(): BOX { fail -70; }", 6, 0, -1, -1, 48, -70, 14);
        told("to m(): INT { return none.tag; }", 1, 0, -1, -1, 48, 0, 26);
        told("to m(): INT { try { fail 70; } catch (e) { return e; } }", 0, 70, -1, -1, 46, 0, -1);
        told("to m(): INT { while (1) { } }", 7, 0, -1, -1, 0, 0, 21);
        told("to m(): INT { return m(); }", 9, 0, -1, -1, 35, 0, 21);
    }

    /** With a little fuel the run ends at the act whose token is marked: so much was used ahead of it. */
    private static void at(int used, String marked) {
        FreightYards x = Yards.fresh(marked);
        Yards.loaded(x, marked.replace("~", ""));
        Yards.due("run", 7, x.run(0, 0, 0, used));
        Yards.due("told(6)", marked.indexOf('~'), x.told(6));
    }

    private static void tellsPlaces() {
        at(0, "to m() { say ~1; }");
        at(1, "to m() { ~say 1; }");
        at(0, "to m() { say ~- 1; }");
        at(0, "to m() { say ~none; }");
        at(0, "to m(INT x) { say ~x; }");
        at(2, "to m() { say 1 ~+ 2; }");
        at(2, "to m() { say 1 ~- 2; }");
        at(2, "to m() { say 1 ~* 2; }");
        at(2, "to m() { say 1 ~== 2; }");
        at(2, "to m() { say 1 ~!= 2; }");
        at(2, "to m() { say 1 ~< 2; }");
        at(3, "to m() { say 1 + 2 ~* 3; }");
        at(4, "to m() { say 1 ~+ 2 * 3; }");
        at(1, "to m() { say none ~as BOX; }");
        at(1, "to m() { say none ~is BOX; }");
        at(3, "to m() { say new BOX[2] ~[0]; }");
        at(1, "to m() { say none . ~tag; }");
        at(2, "to m() { say new BOX[0] . ~size; }");
        at(0, "to m() { say ~new BOX(); }");
        at(1, "to m() { say ~new BOX[2]; }");
        at(0, "to m() { ~m(); }");
        at(0, "to m() { say ~now(); }");
        at(1, "to m() { say ~track(1); }");
        at(1, "to m() { var INT x ~= 1; }");
        at(1, "to m(INT x) { x ~= 1; }");
        at(2, "to m() { none.tag ~= 1; }");
        at(4, "to m() { new BOX[2][1] ~= none; }");
        at(0, "to m() { ~return; }");
        at(1, "to m(): INT { ~return 1; }");
        at(1, "to m() { ~fail 1; }");
        at(1, "to m() { ~if (1) { } }");
        at(1, "to m() { ~while (1) { } }");
        at(2, "to m() { while (~1) { } }");
        at(3, "to m() { ~while (1) { } }");
    }

    private static void tellsPlacesInOtherProcs() {
        FreightYards x = Yards.fresh("places in other procs");
        String text = "to f(VEHICLE v): INT { return v.tag; } to m(): INT { return f(none); }";
        Yards.loaded(x, text);
        Yards.due("run", 1, x.run(1, 0, 0, 50));
        Yards.due("told(6)", text.indexOf("tag"), x.told(6));
        Yards.loaded(x, "to other() { }");
        Yards.due("told(6) after another load", text.indexOf("tag"), x.told(6));
        Yards.due("told(0) after another load", 1, x.told(0));
    }

    private static void refusesOtherWhats() {
        FreightYards x = Yards.fresh("other whats");
        Yards.loaded(x, "to m(): INT { return 5; }");
        for (int what = -1; what <= 7; what++) {
            Yards.due("told ahead of any run", -1, x.told(what));
        }
        x.run(0, 0, 0, 9);
        Yards.due("told(-1)", -1, x.told(-1));
        Yards.due("told(7)", -1, x.told(7));
        Yards.due("told(max)", -1, x.told(Integer.MAX_VALUE));
        Yards.due("told(min)", -1, x.told(Integer.MIN_VALUE));
        Yards.due("told(1)", 5, x.told(1));
        Yards.due("run refused", -1, x.run(1, 0, 0, 9));
        Yards.due("told(1)", 5, x.told(1));
    }
}
