/** Promise 2: twenty bytes come behind the tape, the highest of each int first. */
public final class Promise02FeedTest {
    public static void main(String[] args) {
        countsUpToFull();
        ordersBytes();
        takesEveryByte();
        Yards.end();
    }

    private static void countsUpToFull() {
        FreightYards x = Yards.fresh("full tape");
        for (int i = 1; i <= 150; i++) {
            Yards.due("feed", 20 * i, x.feed(0, 0, 0, 0, 0));
        }
        Yards.due("feed of a full tape", -1, x.feed(0, 0, 0, 0, 0));
        Yards.due("count(8)", 3000, x.count(8));
        Yards.due("load(3001)", -1, x.load(3001));
        Yards.due("load(3000)", 0, x.load(3000));
        Yards.due("count(8)", 0, x.count(8));
        Yards.due("feed", 20, x.feed(0, 0, 0, 0, 0));
    }

    private static void ordersBytes() {
        FreightYards x = Yards.fresh("order of bytes");
        // "to m", "() {", " say", " 77;", "}   "
        Yards.due("feed", 20, x.feed(0x746f206d, 0x2829207b, 0x20736179, 0x2037373b, 0x7d202020));
        Yards.due("load(20)", 1, x.load(20));
        Yards.due("run", 0, x.run(0, 0, 0, 9));
        Yards.due("said(0)", 77, x.said(0));
    }

    private static void takesEveryByte() {
        FreightYards x = Yards.fresh("bytes that begin no token");
        x.feed(0x20202020, 0x20ff2020, 0x80000000, -1, 0x7fffffff);
        Yards.due("load(20)", 0, x.load(20));
        Yards.due("fault(0)", 1, x.fault(0));
        Yards.due("fault(1)", 5, x.fault(1));
    }
}
