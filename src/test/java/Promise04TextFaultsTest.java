/** Promise 4, by part II of the document: which fault a text has, and at which token (marked ~). */
public final class Promise04TextFaultsTest {
    public static void main(String[] args) {
        tokens();
        forms();
        places();
        depths();
        unknownNames();
        namesTwice();
        scopes();
        typesOfSigns();
        typesOfUnits();
        typesOfCasts();
        typesOfCalls();
        typesOfStatements();
        tooMuch();
        order();
        Yards.end();
    }

    private static String in(String statements) {
        return "to m(INT i, VEHICLE v, BOX b, BOX[] r) { " + statements + " }";
    }

    private static void bad(int fault, String statements) {
        Yards.faulty(fault, in(statements));
    }

    private static void good(String statements) {
        Yards.right(in(statements));
    }

    private static void tokens() {
        Yards.faulty(1, "~");
        Yards.faulty(1, "  \n ~");
        Yards.faulty(1, "\n~\tto m() { }");
        Yards.faulty(1, "~\rto m() { }");
        Yards.faulty(1, "to m() { } ~$");
        Yards.faulty(1, "to m() { }~" + (char) 0);
        Yards.faulty(1, "to m() { }~" + (char) 233);
        Yards.faulty(1, "to ~abcdefghi() { }");
        Yards.faulty(1, "to ~a2345678z() { }");
        Yards.right("to abcdefgh() { }");
        Yards.right("to a2345678() { }");
        Yards.faulty(1, "to ~Abc() { }");
        Yards.faulty(1, "to ~2a() { }");
        Yards.faulty(1, "to ~size() { }");
        Yards.faulty(1, "to m(~BOXX b) { }");
        Yards.faulty(1, "to m(~BO b) { }");
        Yards.faulty(1, "to m(~VEHICLEVEHICLEVEHICLE b) { }");
        Yards.right("to m(BOXb,INTi){}");
        Yards.right("to\nm ( BOX [ ] b )\n{\n}");
        good("say 123456789;");
        bad(1, "say ~1234567890;");
        bad(1, "say ~12a;");
        bad(1, "say ~12A;");
        bad(1, "say ~12z;");
        bad(1, "say ~12Z;");
        bad(1, "say new ~BOXZ();");
        good("say 007;say-7;say - 7;");
        bad(1, "say 1 ~! 2;");
        bad(1, "say 1 ~! = 2;");
        bad(1, "say 1 ~= = 2;");
        bad(1, "say 1 ==~= 2;");
        bad(1, "say 1 <~= 2;");
        bad(1, "say 1 ~> 2;");
        bad(1, "say 1 ~/ 2;");
        good("say(1)+(2)*(3);");
    }

    private static void forms() {
        Yards.faulty(1, "~m() { }");
        Yards.faulty(1, "to ~() { }");
        Yards.faulty(1, "to ~to() { }");
        Yards.faulty(1, "to m ~{ }");
        Yards.faulty(1, "to m(~,) { }");
        Yards.faulty(1, "to m(INT a,~) { }");
        Yards.faulty(1, "to m(INT ~INT) { }");
        Yards.faulty(1, "to m(~a) { }");
        Yards.faulty(1, "to m(INT a ~INT b) { }");
        Yards.faulty(1, "to m(INT~[] a) { }");
        Yards.faulty(1, "to m(BOX[~1] a) { }");
        Yards.faulty(1, "to m(BOX[]~[] a) { }");
        Yards.faulty(1, "to m() ~return; }");
        Yards.faulty(1, "to m() : ~{ }");
        Yards.faulty(1, "to m() { ~");
        Yards.faulty(1, "to m() { } ~}");
        Yards.faulty(1, "to m() { } ~;");
        Yards.faulty(1, "to m() { ~; }");
        Yards.faulty(1, "to m() { ~{ } }");
        Yards.faulty(1, "to m() { ~else { } }");
        Yards.faulty(1, "to m() { ~catch (e) { } }");
        Yards.faulty(1, "to m() { ~to n() { } }");
        bad(1, "var ~x = 1;");
        bad(1, "var INT ~= 1;");
        bad(1, "var INT x ~; ");
        bad(1, "var INT x ~== 1;");
        bad(1, "var INT x = ~; ");
        bad(1, "var INT x = 1 ~} ");
        bad(1, "if ~1 { }");
        bad(1, "if (~) { }");
        bad(1, "if (1 ~{ }");
        bad(1, "if (1) ~say 1;");
        bad(1, "if (1) { } else ~if (1) { }");
        bad(1, "while (1) ~; ");
        bad(1, "try ~(1) { }");
        bad(1, "try { } ~say 1;");
        bad(1, "try { } catch ~{ }");
        bad(1, "try { } catch (~1) { }");
        bad(1, "try { } catch (~INT e) { }");
        bad(1, "try { } catch (e ~, f) { }");
        bad(1, "try { } catch (e) ~; ");
        bad(1, "return ~}");
        bad(1, "say ~; ");
        bad(1, "fail ~; ");
        bad(1, "say 1 == 2 ~== 3;");
        bad(1, "say 1 < 2 ~!= 3;");
        bad(1, "say 1 ~2;");
        bad(1, "say - ~i;");
        bad(1, "say - ~-1;");
        good("say 1 - -1;");
        bad(1, "say 1 + ~; ");
        bad(1, "say 1 * ~* 2;");
        bad(1, "say (1~; ");
        bad(1, "say (~);");
        bad(1, "say r[~];");
        bad(1, "say r[0~;");
        bad(1, "say v.~0;");
        bad(1, "say v.~BOX;");
        bad(1, "say v.~if;");
        bad(1, "say r.~[0];");
        bad(1, "say v as ~x;");
        bad(1, "say v as BOX[~0];");
        bad(1, "say r as BOX[] ~BOX;");
        bad(1, "say new ~x();");
        bad(1, "say new ~INT[2];");
        bad(1, "say new BOX~;");
        bad(1, "say new BOX(~1);");
        bad(1, "say new BOX[~];");
        bad(1, "say new HOLDS~();");
        good("say new HOLDS[2];");
        bad(1, "say lay(~, r);");
        bad(1, "say lay(0 ~r);");
        bad(1, "say lay(0, ~);");
    }

    private static void places() {
        good("i = 1; v.tag = 1; v.behind = v; r[0] = b; (v).tag = 2; (r)[0] = none; v.behind.behind.tag = 1;");
        good("new BOX().load = 1; new BOX[1][0] = b; none.tag = 1; track(1)[0] = v; track(0)[0].tag = 3;");
        good("now(); track(1); (v as BOX).load = 1;");
        bad(1, "i~;");
        bad(1, "i ~i = 1;");
        bad(1, "v.tag ~say 1;");
        bad(1, "1 ~say 1;");
        bad(1, "now() ~say 1;");
        bad(1, "i ~+ 1;");
        bad(1, "i ~== 1;");
        bad(1, "(i) ~= 1;");
        bad(1, "1 ~= 1;");
        bad(1, "1~;");
        bad(1, "-1~;");
        bad(1, "none ~= none;");
        bad(1, "now() ~= 1;");
        bad(1, "(now())~;");
        bad(1, "track(0)[0]~;");
        bad(1, "track(0).size~;");
        bad(1, "r.size ~= 1;");
        bad(1, "v as BOX ~= b;");
        bad(1, "v is BOX ~= b;");
        bad(1, "new BOX()~;");
        bad(1, "new BOX[2] ~= r;");
        bad(1, "now() ~+ 1;");
        bad(1, "v.tag~;");
        bad(1, "v.tag ~+ 1;");
    }

    private static String times(String s, int n) {
        return s.repeat(n);
    }

    private static void depths() {
        good("say " + times("(", 10) + "1" + times(")", 10) + ";");
        bad(1, "say " + times("(", 10) + "~(1" + times(")", 11) + ";");
        good("if (" + times("(", 9) + "1" + times(")", 10) + " { say " + times("(", 10) + "1" + times(")", 10) + "; }");
        bad(1, "if (" + times("(", 9) + "~(1" + times(")", 11) + " { }");
        bad(1, "while (" + times("(", 9) + "~(1" + times(")", 11) + " { }");
        good("say r[" + times("(", 9) + "1" + times(")", 9) + "];");
        bad(1, "say r[" + times("(", 9) + "~(1" + times(")", 10) + "];");
        bad(1, "say lay(" + times("(", 9) + "~(1" + times(")", 10) + ", r);");
        bad(1, "say lay(1, " + times("(", 9) + "~(r" + times(")", 11) + ";");
        good("say lay(" + times("(", 9) + "1" + times(")", 9) + ", " + times("(", 9) + "r" + times(")", 10) + ";");
        bad(1, "say new BOX[" + times("(", 9) + "~(1" + times(")", 10) + "];");
        good("say new BOX[" + times("(", 9) + "1" + times(")", 9) + "];");
        bad(1, "say " + times("(", 10) + "now~()" + times(")", 10) + ";");
        bad(1, "say " + times("(", 10) + "new BOX~()" + times(")", 10) + ";");
        bad(1, "say " + times("(", 10) + "new BOX~[1]" + times(")", 10) + ";");
        bad(1, "say " + times("(", 10) + "r~[1]" + times(")", 10) + ";");
        good("say " + times("(", 10) + "r as WAGON[]" + times(")", 10) + ";");
        good("say " + times("(", 9) + "new BOX()" + times(")", 9) + ";");
        good("say (1) + (2) + (3) + (4) + (5) + (6) + (7) + (8) + (9) + (10) + (11) + (12);");
        good(times("if (1) { ", 7) + times("}", 7));
        bad(1, times("if (1) { ", 7) + "if (1) ~{ } " + times("}", 7));
        bad(1, times("try { ", 7) + "while (1) ~{ } " + times("} catch (e) { }", 7));
        good(times("if (1) { } else { } ", 12));
    }

    private static void unknownNames() {
        bad(2, "say ~x;");
        bad(2, "~x = 1;");
        bad(2, "~x();");
        bad(2, "~i(1);");
        bad(2, "say ~m;");
        bad(2, "say ~now;");
        bad(2, "~track = 1;");
        bad(2, "say v.~foo;");
        bad(2, "say 1.~foo;");
        bad(2, "say v.~x;");
        bad(2, "say ~tag;");
        bad(2, "say ~m");
        bad(2, "say ~m $");
        good("m(i, v, b, r);");
        Yards.faulty(2, "to a() { ~b(); } to b() { }");
        Yards.right("to a() { } to b() { a(); b(); }");
        Yards.right("to a(INT a) { a(a); a = a; }");
        Yards.right("to a(INT now, INT tag) { now = now() + now; var INT track = 3; track = track(track).size; }");
        Yards.right("to a() { var VEHICLE tag = none; tag.tag = 1; }");
    }

    private static void namesTwice() {
        Yards.faulty(3, "to a() { } to ~a() { }");
        for (String five : new String[] {"track", "lay", "hump", "send", "now"}) {
            Yards.faulty(3, "to ~" + five + "() { }");
        }
        Yards.faulty(3, "to a(INT x, BOX ~x) { }");
        Yards.faulty(3, "to a(INT x) { var INT ~x = 1; }");
        bad(3, "var INT x = 1; var INT ~x = 1;");
        bad(3, "if (1) { var INT ~i = 1; }");
        bad(3, "try { } catch (~i) { }");
        bad(3, "try { } catch (e) { var INT ~e = 1; }");
        bad(3, "var INT e = 1; try { } catch (~e) { }");
        good("try { } catch (e) { } try { } catch (e) { } var INT e = 1;");
        good("if (1) { var INT x = 1; } else { var BOX x = none; } while (1) { var INT x = 2; } var BOX[] x = none;");
        good("var INT tag = 1; var INT m = 2;");
        Yards.right("to tag() { } to mass() { } to a(INT a) { }");
    }

    private static void scopes() {
        bad(2, "var INT x = ~x;");
        bad(2, "if (1) { var INT x = 1; } say ~x;");
        bad(2, "if (1) { var INT x = 1; } else { say ~x; }");
        bad(2, "try { var INT x = 1; } catch (e) { say ~x; }");
        bad(2, "try { } catch (e) { } say ~e;");
        bad(2, "try { say ~e; } catch (e) { }");
        Yards.faulty(2, "to a(INT x) { } to b() { say ~x; }");
        good("var INT x = 1; if (x) { while (x) { x = x; } }");
        good("try { } catch (e) { e = e + 1; if (e) { say e; } }");
    }

    private static void typesOfSigns() {
        for (String sign : new String[] {"+", "-", "*", "<"}) {
            bad(4, "say v ~" + sign + " 1;");
            bad(4, "say 1 ~" + sign + " v;");
            bad(4, "say none ~" + sign + " 1;");
            bad(4, "say m(i, v, b, r) ~" + sign + " 1;");
            bad(4, "say 1 ~" + sign + " m(i, v, b, r);");
            bad(4, "say r ~" + sign + " r;");
            good("say i " + sign + " -1;");
        }
        for (String sign : new String[] {"==", "!="}) {
            bad(4, "say 1 ~" + sign + " v;");
            bad(4, "say v ~" + sign + " 1;");
            bad(4, "say 1 ~" + sign + " none;");
            bad(4, "say m(i, v, b, r) ~" + sign + " 1;");
            bad(4, "say v ~" + sign + " m(i, v, b, r);");
            good("say v " + sign + " r; say none " + sign + " none; say b " + sign + " none; say 1 " + sign + " 2;");
        }
        good("say v is BOX + r.size * (v == b) - (1 < 2);");
        bad(4, "say (v) ~+ 1;");
        bad(4, "say 1 + 2 ~* v;");
        bad(4, "say 1 ~+ b as WAGON;");
    }

    private static void typesOfUnits() {
        bad(4, "say v[0~];");
        bad(4, "say 1[0~];");
        bad(4, "say none[0~];");
        bad(4, "say r[v~];");
        bad(4, "say r[r~];");
        bad(4, "say r[none~];");
        bad(4, "say r[m(i, v, b, r)~];");
        bad(4, "say r[0][0~];");
        bad(4, "say new BOX[v~];");
        bad(4, "say new BOX[none~];");
        bad(4, "say v.~size;");
        bad(4, "say 1.~size;");
        bad(4, "say none.~size;");
        bad(4, "say m(i, v, b, r).~size;");
        bad(4, "say 1.~tag;");
        bad(4, "say r.~tag;");
        bad(4, "say m(i, v, b, r).~tag;");
        bad(4, "say v.~load;");
        bad(4, "say b.~chill;");
        bad(4, "say b.~grip;");
        bad(4, "say b.~pull;");
        bad(4, "say v.tag.~tag;");
        good("say none.tag; say none.behind; say none.fuel; say v.behind.mass; say b.load; say r[0].load;");
        Yards.faulty(4, "to m(HOLDS h) { say h.load; say h.~tag; }");
        Yards.faulty(4, "to m(HOLDS h) { say h.~mass; }");
        Yards.faulty(4, "to m(COOLS h) { say h.chill; say h.~load; }");
        Yards.faulty(4, "to m(BRAKES h) { say h.grip; say h.~pull; }");
        Yards.faulty(4, "to m(LIFTS h) { say h.reach; say h.~behind; }");
        Yards.faulty(4, "to m(BURNS h) { say h.fuel; say h.~pull; }");
        Yards.faulty(4, "to m(ENGINE e) { say e.pull; say e.grip; say e.~fuel; }");
        Yards.faulty(4, "to m(VAN e) { say e.grip; say e.~pull; }");
        Yards.right("to m(SHUNTER s, REEFER f, MILKER k, CRANE c) { say s.fuel + s.reach + s.pull + s.grip; "
            + "say f.load + f.chill + f.fuel; say k.load + k.chill; say c.load + c.reach; }");
    }

    private static void typesOfCasts() {
        for (String as : new String[] {"as", "is"}) {
            bad(4, "say 1 " + as + " ~BOX;");
            bad(4, "say 1 " + as + " BOX[~];");
            bad(4, "say v " + as + " ~INT;");
            bad(4, "say none " + as + " ~INT;");
            bad(4, "say m(i, v, b, r) " + as + " ~BOX;");
            bad(4, "say v " + as + " BOX[~];");
            bad(4, "say r " + as + " ~BOX;");
            bad(4, "say b " + as + " ~TANK;");
            bad(4, "say b " + as + " ~ENGINE;");
            bad(4, "say r " + as + " TANK[~];");
            bad(4, "say v " + as + " HOLDS[~];");
            good("say v " + as + " BOX; say b " + as + " VEHICLE; say b " + as + " REEFER; say b " + as + " BRAKES;");
            good("say r " + as + " VEHICLE[]; say r " + as + " REEFER[]; say r " + as + " LIFTS[];");
            good("say none " + as + " BOX; say none " + as + " BOX[]; say none " + as + " HOLDS;");
            Yards.right("to m(HOLDS h, HOLDS[] g) { say h " + as + " ENGINE; say h " + as + " COOLS; say g " + as
                + " VAN[]; say g " + as + " BURNS[]; }");
        }
        bad(4, "say v is BOX.~tag;");
        good("say v as BOX.load; say v as BOX as REEFER.chill; say v is BOX + 1;");
        good("var INT x = v is BOX; var BOX y = v as BOX; var BOX[] z = track(0) as BOX[];");
    }

    private static void typesOfCalls() {
        String f = "to f(INT a, BOX b): INT { } to g() { ";
        Yards.right(f + "f(1, none); f(f(1, none), new REEFER()); g(); }");
        Yards.faulty(4, f + "f(~); }");
        Yards.faulty(4, f + "f(1~); }");
        Yards.faulty(4, f + "f(none~, none); }");
        Yards.faulty(4, f + "f(1, 1~); }");
        Yards.faulty(4, f + "f(1, new WAGON()~); }");
        Yards.faulty(4, f + "f(1, none, 1~); }");
        Yards.faulty(4, f + "f(1, none, 1~, 2); }");
        Yards.faulty(4, f + "f(1, g()~); }");
        Yards.faulty(4, f + "g(1~); }");
        Yards.faulty(1, f + "f(1, 1~; }");
        Yards.faulty(1, f + "f(none ~1); }");
        Yards.faulty(4, f + "track(none~); }");
        Yards.faulty(4, f + "track(~); }");
        Yards.faulty(4, f + "lay(1~); }");
        Yards.faulty(4, f + "lay(none~, none); }");
        Yards.faulty(4, f + "lay(1, new HOLDS[2]~); }");
        Yards.faulty(4, f + "lay(1, new BOX()~); }");
        Yards.faulty(4, f + "hump(none~); }");
        Yards.faulty(4, f + "hump(1~, none); }");
        Yards.faulty(4, f + "hump(none, 1~); }");
        Yards.faulty(4, f + "send(none, 1~); }");
        Yards.faulty(4, f + "send(none, none~, 1); }");
        Yards.faulty(4, f + "send(1~, 1, 1); }");
        Yards.faulty(4, f + "send(none, 1, none~); }");
        Yards.faulty(4, f + "now(1~); }");
        Yards.right(f + "lay(1, new BOX[2]); hump(new VAN[1], track(1)); var INT x = send(none, now(), 1) + now(); }");
        Yards.faulty(4, f + "var BOX[] x = track(1)~; }");
    }

    private static void typesOfStatements() {
        bad(4, "var INT x = v~;");
        bad(4, "var INT x = none~;");
        bad(4, "var BOX x = 1~;");
        bad(4, "var BOX x = v~;");
        bad(4, "var BOX x = r~;");
        bad(4, "var BOX[] x = new WAGON[1]~;");
        bad(4, "var BOX x = m(i, v, b, r)~;");
        bad(4, "var HOLDS x = new VAN()~;");
        bad(4, "var HOLDS h = b; var VEHICLE x = h~;");
        bad(4, "var HOLDS[] h = r; var VEHICLE[] x = h~;");
        good("var WAGON w = b; var HOLDS h = b; var HOLDS[] g = r; var VEHICLE[] q = new REEFER[2]; var BOX[] n = none;");
        bad(4, "i = v~;");
        bad(4, "b = v~;");
        bad(4, "r = new WAGON[1]~;");
        bad(4, "r[0] = v~;");
        bad(4, "r[0] = 1~;");
        bad(4, "v.tag = v~;");
        bad(4, "v.behind = 1~;");
        bad(4, "v.behind = r~;");
        bad(4, "v.mass ~= 1;");
        bad(4, "new VAN().grip ~= 1;");
        bad(4, "new STEAM().pull ~= none;");
        bad(4, "1.~tag = 1;");
        bad(4, "v[0~] = v;");
        bad(4, "if (v~) { }");
        bad(4, "if (none~) { }");
        bad(4, "while (r~) { }");
        bad(4, "while (m(i, v, b, r)~) { }");
        bad(4, "say m(i, v, b, r)~;");
        bad(4, "say (m(i, v, b, r))~;");
        good("say none; say r; say v; say 1;");
        bad(4, "fail v~;");
        bad(4, "fail none~;");
        bad(4, "fail m(i, v, b, r)~;");
        bad(4, "return 1~;");
        bad(4, "return none~;");
        bad(4, "return m(i, v, b, r)~;");
        good("return;");
        Yards.faulty(4, "to a(): INT { return~; }");
        Yards.faulty(4, "to a(): INT { return none~; }");
        Yards.faulty(4, "to a(): BOX { return 1~; }");
        Yards.faulty(4, "to a(): BOX { return new WAGON()~; }");
        Yards.faulty(4, "to a(): BOX[] { return new BOX()~; }");
        Yards.right("to a(): BOX { return new REEFER(); } to b(): INT { } to c(): BRAKES[] { return none; }");
        Yards.right("to a(): BRAKES[] { return new STEAM[2]; }");
    }

    private static void tooMuch() {
        Yards.faulty(5, twelve() + "to ~p12() { }");
        Yards.faulty(3, twelve() + "to ~p3() { }");
        Yards.faulty(3, twelve() + "to ~lay() { }");
        Yards.faulty(1, twelve() + "~p12() { }");
        Yards.right("to a(INT b, INT c, INT d, INT e) { }");
        Yards.faulty(5, "to a(INT b, INT c, INT d, INT e, BOX[] ~f) { }");
        Yards.faulty(3, "to a(INT b, INT c, INT d, INT e, INT ~d) { }");
        Yards.faulty(1, "to a(INT b, INT c, INT d, INT e, ~f) { }");
        String vars = vars(20);
        good(vars);
        bad(5, vars + "var INT ~y = 1;");
        bad(5, vars + "try { } catch (~y) { }");
        bad(3, vars + "var INT ~a3 = 1;");
        bad(5, "if (1) { " + vars + " } var INT ~y = 1;");
        good(vars(19) + "try { } catch (y) { }");
        Yards.right("to a() { " + vars(24) + " } to b() { " + vars(24) + " }");
        tooManyTokens();
    }

    private static String twelve() {
        StringBuilder s = new StringBuilder();
        for (int i = 0; i < 12; i++) {
            s.append("to p").append(i).append("() { } ");
        }
        return s.toString();
    }

    private static String vars(int n) {
        StringBuilder s = new StringBuilder();
        for (int i = 0; i < n; i++) {
            s.append("var INT a").append(i).append(" = 1; ");
        }
        return s.toString();
    }

    /** Ahead of what is marked there are 800 tokens: 5 of the head, and those of the statements. */
    private static void tooManyTokens() {
        String to797 = "to m(){" + times("say 1;", 264);
        String to798 = "to m(){" + times("say 1;", 263) + "return;return;";
        String to800 = to797 + "say 1;";
        Yards.right(to798 + "}");
        Yards.right("to m(){" + times("say 1;", 263) + "return;say 1;}");
        Yards.right("to m(){" + times("say 1;", 263) + "return;say 1;}\n \n");
        Yards.faulty(5, "to m(){" + times("say 1;", 263) + "return;say 1;}~to n(){}");
        Yards.faulty(1, "to m(){" + times("say 1;", 263) + "return;say 1;}~;");
        Yards.faulty(5, to800 + "~}");
        Yards.faulty(5, to800 + "~m();");
        Yards.faulty(5, to800 + "~return;");
        Yards.faulty(2, to800 + "~x=2;");
        Yards.faulty(2, to800 + "~m;");
        Yards.faulty(2, to800 + "~now");
        Yards.faulty(1, to800 + "~$");
        Yards.faulty(1, to800 + "~;");
        Yards.faulty(1, to800 + "~");
        Yards.faulty(5, to797 + "say none as ~BOX;");
        Yards.faulty(5, to797 + "say none as ~BOX[];");
        Yards.faulty(4, to797 + "say 1 as ~BOX;");
        Yards.faulty(4, to798 + "say none~+1;");
        Yards.faulty(5, to798 + "say 1~+none;");
        Yards.faulty(4, to798 + "fail none~;");
        Yards.faulty(5, to798 + "fail 1~;");
    }

    private static void order() {
        bad(4, "say 1 ~+ none $");
        bad(4, "say 1 ~+ none 12345678901;");
        bad(4, "say 1 ~+ none ]");
        bad(4, "say 1 ~+ none");
        bad(4, "say 1 ~* none + foo;");
        bad(4, "say 1 ~+ none < foo;");
        bad(4, "say 1 ~== none == 2;");
        bad(4, "say v ~< foo;");
        bad(4, "say none ~+ foo;");
        bad(2, "say 1 + none.~foo;");
        bad(4, "say 1 + none ~* 2;");
        bad(4, "say 1 ~+ none - 2;");
        bad(2, "say 5[~foo];");
        bad(4, "say 5[0~]$");
        bad(1, "say none ~1 + 1;");
        bad(1, "var INT x = v ~)");
        bad(1, "say 1[0~;");
        bad(4, "i = 1 ~+ v)");
        bad(1, "i = v~)");
        bad(4, "if (1 ~< v { }");
        bad(1, "if (v ~{ }");
        bad(4, "lay(1 ~- v; ");
        bad(4, "say v as ~INT[];");
        bad(4, "say b as ~TANK $");
        bad(1, "say b as TANK[~$");
        bad(4, "say r as TANK[~]$");
        Yards.faulty(3, "to a() { } to ~a $");
        Yards.faulty(1, "to a ~$ to a() { }");
    }
}
