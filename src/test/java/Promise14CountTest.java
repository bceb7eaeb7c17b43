/** Promise 14: what is counted. */
public final class Promise14CountTest {
    public static void main(String[] args) {
        FreightYards x = Yards.fresh("count");
        Yards.loaded(x, "to a() { } to m() { say new BOX(); say new VAN[3]; say new VAN[4]; var BOX[] r = new BOX[0]; "
            + "send(r, 1, 1); try { fail 1; } catch (e) { } new TANK().tag = 1; say new STEAM(); fail 2; }");
        Yards.due("run", 6, x.run(1, 0, 0, 100));
        x.tick(9);
        x.feed(0, 0, 0, 0, 0);
        int[] due = {2, 3, 3, 7, 1, 9, 2, 4, 20};
        for (int what = 0; what < due.length; what++) {
            Yards.due("count(" + what + ")", due[what], x.count(what));
        }
        Yards.due("count(-1)", -1, x.count(-1));
        Yards.due("count(9)", -1, x.count(9));
        Yards.due("count(max)", -1, x.count(Integer.MAX_VALUE));
        Yards.due("count(min)", -1, x.count(Integer.MIN_VALUE));
        Yards.end();
    }
}
