/** Promise 7: what is said, of every sort, and how much of it is kept. */
public final class Promise07SaidTest {
    public static void main(String[] args) {
        FreightYards x = Yards.fresh("said");
        Yards.loaded(x, "to m() { say 5; say -6; say new BOX(); say new BOX(); say new BOX[0]; say new VAN[7]; say none; "
            + "var BOX b = none; say b; say 1 == 1; }");
        Yards.due("run", 0, x.run(0, 0, 0, 50));
        int[] due = {5, -6, 0, 1, -1, -8, -1000, -1000, 1};
        for (int i = 0; i < due.length; i++) {
            Yards.due("said(" + i + ")", due[i], x.said(i));
        }
        Yards.due("count(7)", due.length, x.count(7));
        Yards.due("said behind the last", 0, x.said(due.length));
        Yards.due("said(-1)", 0, x.said(-1));
        Yards.due("said(max)", 0, x.said(Integer.MAX_VALUE));
        Yards.due("said(min)", 0, x.said(Integer.MIN_VALUE));
        staysOverRunsAndFaults();
        keepsThreeHundred();
        Yards.end();
    }

    private static void staysOverRunsAndFaults() {
        FreightYards x = Yards.fresh("over runs");
        Yards.loaded(x, "to m(INT n) { say n; fail 1; say 99; }");
        x.run(0, 3, 0, 50);
        x.run(0, 4, 0, 50);
        Yards.loaded(x, "to k() { say 5; }");
        x.run(0, 0, 0, 50);
        Yards.due("count(7)", 3, x.count(7));
        Yards.due("said(0)", 3, x.said(0));
        Yards.due("said(1)", 4, x.said(1));
        Yards.due("said(2)", 5, x.said(2));
    }

    private static void keepsThreeHundred() {
        FreightYards x = Yards.fresh("300");
        Yards.loaded(x, "to m(INT n): INT { var INT i = 0; while (i < n) { say i; i = i + 1; } return i; }");
        Yards.due("run", 0, x.run(0, 190, 0, 2000));
        Yards.due("run", 0, x.run(0, 190, 0, 2000));
        Yards.due("told(1)", 190, x.told(1));
        Yards.due("count(7)", 300, x.count(7));
        Yards.due("said(190)", 0, x.said(190));
        Yards.due("said(299)", 109, x.said(299));
        Yards.due("said(300)", 0, x.said(300));
    }
}
