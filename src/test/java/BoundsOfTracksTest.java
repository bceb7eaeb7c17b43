/** Part III: the sentences on tracks, trains and ticks that name a bound; a sentence a test. */
public final class BoundsOfTracksTest {
    private static final int MOST = Integer.MAX_VALUE;
    private static final int LEAST = Integer.MIN_VALUE;
    private static final int[] NO_TRACKS = {-1, 8, 9, MOST, LEAST};

    public static void main(String[] args) {
        zeroAndNothingAtFirst();
        tracksZeroToSeven();
        layWhatIsBelow();
        layNothing();
        layOnNoTrack();
        layAnotherRow();
        humpFromPlaceZeroOn();
        humpIntoTheFirstThatHasNothing();
        humpIntoFullRows();
        humpWhatIsBelow();
        humpOneRow();
        humpNothing();
        humpEmptyRows();
        sendFromZeroOn();
        sendOneToAThousandMiles();
        sendToNoTrack();
        sendTenTrains();
        sendNothing();
        nowIsTheClock();
        theClockIsOneMore();
        inOrderOfNumbers();
        massPlacesCountTwice();
        speedOfMassBelowOne();
        speedTowardsZero();
        speedNotMoreThanGrip();
        speedNotBelowZero();
        sumsThatWrap();
        milesLessBySpeed();
        burnsIfSpeedIsAboveZero();
        burnsFuelAboveZero();
        thereAtNoMiles();
        thereIfItIsBelow();
        standsForGood();
        thereForGood();
        tenTrainsAtOnce();
        Yards.end();
    }

    /** Procs that take ints: 0 lays row k on track n, 1 gives the row of track n, 2 lays nothing on track n. */
    private static final String LAYS = "to l(INT n, INT k): INT { if (k == 0) { return lay(n, new VEHICLE[1]); } "
        + "if (k == 1) { return lay(n, new ENGINE[2]); } if (k == 2) { return lay(n, new WAGON[3]); } "
        + "if (k == 4) { return lay(n, new DIESEL[4]); } if (k == 5) { return lay(n, new BOX[5]); } "
        + "return lay(n, new REEFER[6]); } "
        + "to t(INT n): VEHICLE[] { return track(n); } to o(INT n): INT { return lay(n, none); } ";

    private static FreightYards laying(String name) {
        FreightYards x = Yards.fresh(name);
        Yards.loaded(x, LAYS);
        return x;
    }

    private static int given(FreightYards x, int p, int a, int b) {
        Yards.due("run", 0, x.run(p, a, b, 2000));
        return x.told(1);
    }

    private static void onTrack(FreightYards x, int n, int of, int places) {
        Yards.due("track(" + n + ", 1)", of, x.track(n, 1));
        Yards.due("track(" + n + ", 2)", places, x.track(n, 2));
    }

    private static void zeroAndNothingAtFirst() {
        Yards.sentence("TRACKS 0 .. 7 each state a KIND or ABILITY (0 at first) and have a ROW .. or NOTHING (at first)");
        FreightYards x = laying("at first");
        for (int n = 0; n < 8; n++) {
            Yards.due("track(" + n + ", 0)", 0, x.track(n, 0));
            onTrack(x, n, -1, 0);
            Yards.due("track(" + n + ", 3)", -1, x.track(n, 3));
            given(x, 1, n, 0);
            Yards.due("told(2)", -1, x.told(2));
        }
    }

    private static void tracksZeroToSeven() {
        Yards.sentence("track (n): the ROW of track n, or NOTHING (also without such a track)");
        FreightYards x = laying("track(n)");
        for (int n = 0; n < 8; n++) {
            Yards.due("lay", 1, given(x, 0, n, n % 3));
            given(x, 1, n, 0);
            Yards.due("told(2)", 18 + n % 3, x.told(2));
            Yards.due("told(3)", n % 3 + 1, x.told(3));
        }
        for (int n : NO_TRACKS) {
            given(x, 1, n, 0);
            Yards.due("told(2)", -1, x.told(2));
            Yards.due("told(3)", -1, x.told(3));
        }
    }

    private static void layWhatIsBelow() {
        Yards.sentence("0, and it stays, if .. r is not BELOW a ROW of what it states");
        FreightYards x = laying("lay");
        int[] kinds = {0, 1, 2, 4, 5, 10};
        String[] below = {"0", "0 1 15", "0 2", "0 1 4 15 17", "0 2 5 13", "0 2 5 10 13 14 17"};
        for (int stated = 0; stated < 18; stated++) {
            for (int k = 0; k < kinds.length; k++) {
                x.state(3, 0);
                given(x, 0, 3, 0);
                x.state(3, stated);
                onTrack(x, 3, stated == 0 ? 0 : -1, stated == 0 ? 1 : 0);
                boolean fits = (" " + below[k] + " ").contains(" " + stated + " ");
                int laid = given(x, 0, 3, kinds[k]);
                Yards.due("lay of " + kinds[k] + " where " + stated + " is stated", fits ? 1 : 0, laid);
                Yards.due("track(3, 1)", fits ? kinds[k] : -1, x.track(3, 1));
                if (x.count(2) > 190) {
                    x = laying("lay");
                }
            }
        }
        x = laying("it stays");
        x.state(3, 2);
        Yards.due("lay", 1, given(x, 0, 3, 5));
        Yards.due("lay", 0, given(x, 0, 3, 1));
        Yards.due("lay", 0, given(x, 0, 3, 0));
        onTrack(x, 3, 5, 5);
    }

    private static void layNothing() {
        Yards.sentence("lay (n, r): track n has r (or NOTHING): 1");
        FreightYards x = laying("nothing");
        for (int stated = 0; stated < 18; stated++) {
            x.state(7, 0);
            Yards.due("lay", 1, given(x, 0, 7, 10));
            x.state(7, 14);
            x.state(7, stated);
            Yards.due("lay of nothing", 1, given(x, 2, 7, 0));
            onTrack(x, 7, -1, 0);
            Yards.due("lay of nothing again", 1, given(x, 2, 7, 0));
        }
    }

    private static void layOnNoTrack() {
        Yards.sentence("0, and it stays, if there is no such track");
        FreightYards x = laying("no track");
        for (int n : NO_TRACKS) {
            Yards.due("lay", 0, given(x, 0, n, 0));
            Yards.due("lay of nothing", 0, given(x, 2, n, 0));
        }
        for (int n = 0; n < 8; n++) {
            onTrack(x, n, -1, 0);
        }
    }

    private static void layAnotherRow() {
        Yards.sentence("lay (n, r): track n has r");
        FreightYards x = laying("another row");
        Yards.due("lay", 1, given(x, 0, 0, 1));
        Yards.due("lay", 1, given(x, 0, 0, 2));
        onTrack(x, 0, 2, 3);
        onTrack(x, 1, -1, 0);
    }

    /** Rows r (6 places) and s (places) with tags as numbers; 0 is nothing. What stands on the tracks 0 and 1 then. */
    private static FreightYards humped(String r, String s, int went) {
        FreightYards x = Yards.fresh(r + " into " + s);
        Yards.loaded(x, "to m(): INT { var VEHICLE[] r = none; var VEHICLE[] s = none; " + r + " " + s
            + " lay(0, r); lay(1, s); return hump(r, s); }");
        Yards.due("hump", went, given(x, 0, 0, 0));
        return x;
    }

    private static void places(FreightYards x, int n, int... numbers) {
        Yards.due("track(" + n + ", 2)", numbers.length, x.track(n, 2));
        for (int i = 0; i < numbers.length; i++) {
            Yards.due("place(" + n + ", " + i + ")", numbers[i], x.place(n, i));
        }
    }

    private static void humpFromPlaceZeroOn() {
        Yards.sentence("hump (r, s): the VEHICLES of r, from place 0 on, each go to the first place of s that has NOTHING");
        FreightYards x = humped("r = new BOX[3]; r[2] = new BOX(); r[0] = new BOX(); r[1] = new BOX();", "s = new BOX[4];", 3);
        places(x, 0, -1, -1, -1);
        places(x, 1, 1, 2, 0, -1);
    }

    private static void humpIntoTheFirstThatHasNothing() {
        Yards.sentence("to the first place of s that has NOTHING");
        FreightYards x = humped("r = new BOX[3]; r[0] = new BOX(); r[2] = new BOX();",
            "s = new BOX[5]; s[0] = new BOX(); s[2] = new BOX(); s[4] = new BOX();", 2);
        places(x, 0, -1, -1, -1);
        places(x, 1, 2, 0, 3, 1, 4);
        x = humped("r = new BOX[1]; r[0] = new BOX();", "s = new BOX[3]; s[0] = new BOX(); s[1] = new BOX();", 1);
        places(x, 1, 1, 2, 0);
    }

    private static void humpIntoFullRows() {
        Yards.sentence("if there is one (else they stay)");
        FreightYards x = humped("r = new BOX[3]; r[0] = new BOX(); r[1] = new BOX(); r[2] = new BOX();",
            "s = new BOX[2]; s[1] = new BOX();", 1);
        places(x, 0, -1, 1, 2);
        places(x, 1, 0, 3);
        x = humped("r = new BOX[2]; r[0] = new BOX(); r[1] = new BOX();", "s = new BOX[1]; s[0] = new BOX();", 0);
        places(x, 0, 0, 1);
        places(x, 1, 2);
        x = humped("r = new BOX[2]; r[0] = new BOX(); r[1] = new BOX();", "s = new BOX[2];", 2);
        places(x, 0, -1, -1);
        places(x, 1, 0, 1);
    }

    private static void humpWhatIsBelow() {
        Yards.sentence("and if they are BELOW what s is of (else they stay)");
        FreightYards x = humped("r = new VEHICLE[5]; r[0] = new VAN(); r[1] = new REEFER(); r[2] = new WAGON(); "
            + "r[3] = new TANK(); r[4] = new BOX();", "s = new BOX[5];", 2);
        places(x, 0, 0, -1, 2, 3, -1);
        places(x, 1, 1, 4, -1, -1, -1);
        x = humped("r = new BOX[2]; r[0] = new BOX(); r[1] = new REEFER();", "s = new VEHICLE[1];", 1);
        places(x, 0, -1, 1);
        x = humped("r = new BOX[2]; r[0] = new BOX(); r[1] = new BOX();", "s = new ENGINE[2];", 0);
        places(x, 0, 0, 1);
        places(x, 1, -1, -1);
    }

    private static void humpOneRow() {
        Yards.sentence("r and s one ROW: nothing goes");
        FreightYards x = humped("r = new BOX[3]; r[2] = new BOX();", "s = r;", 0);
        places(x, 0, -1, -1, 0);
        places(x, 1, -1, -1, 0);
    }

    private static void humpNothing() {
        Yards.sentence("(r or s NOTHING: FAULT 1");
        String made = "to m(INT k): INT { var BOX[] r = new BOX[1]; r[0] = new BOX(); lay(0, r); "
            + "if (k == 0) { return hump(r, none); } if (k == 1) { return hump(none, r); } return hump(none, none); }";
        for (int k = 0; k < 3; k++) {
            FreightYards x = Yards.fresh("hump " + k);
            Yards.loaded(x, made);
            Yards.due("run", 1, x.run(0, k, 0, 99));
            places(x, 0, 0);
        }
    }

    private static void humpEmptyRows() {
        Yards.sentence("how many went: rows of 0 places, rows without VEHICLES, rows of 40");
        places(humped("r = new BOX[0];", "s = new BOX[0];", 0), 1);
        places(humped("r = new BOX[2];", "s = new BOX[2];", 0), 1, -1, -1);
        places(humped("r = new BOX[1]; r[0] = new BOX();", "s = new BOX[0];", 0), 0, 0);
        FreightYards x = humped("r = new BOX[40]; var INT i = 0; while (i < 40) { r[i] = new BOX(); i = i + 1; }",
            "s = new BOX[40];", 40);
        for (int i = 0; i < 40; i++) {
            Yards.due("place(0, " + i + ")", -1, x.place(0, i));
            Yards.due("place(1, " + i + ")", i, x.place(1, i));
        }
        x = humped("r = new BOX[3]; r[0] = new BOX(); r[1] = r[0]; r[2] = r[0];", "s = new BOX[3];", 3);
        places(x, 0, -1, -1, -1);
        places(x, 1, 0, 0, 0);
    }

    // ---- trains ----

    private static FreightYards sending() {
        FreightYards x = Yards.fresh("send");
        Yards.loaded(x, "to m(INT n, INT k): INT { return send(new BOX[0], n, k); }");
        return x;
    }

    private static void sendFromZeroOn() {
        Yards.sentence("send (r, n, k): r is a TRAIN to track n, k miles away: its number, from 0 on");
        FreightYards x = sending();
        for (int t = 0; t < 10; t++) {
            Yards.due("send", t, given(x, 0, t % 8, 100 + t));
            Yards.due("count(4)", t + 1, x.count(4));
            Yards.due("train(t, 0)", 0, x.train(t, 0));
            Yards.due("train(t, 1)", t % 8, x.train(t, 1));
            Yards.due("train(t, 2)", 100 + t, x.train(t, 2));
            Yards.due("train(t, 3)", 0, x.train(t, 3));
        }
    }

    private static void sendOneToAThousandMiles() {
        Yards.sentence("-1, and nothing is sent, if .. k is not 1 .. 1000");
        FreightYards x = sending();
        for (int k : new int[] {0, -1, 1001, MOST, LEAST}) {
            Yards.due("send " + k, -1, given(x, 0, 0, k));
            Yards.due("count(4)", 0, x.count(4));
            Yards.due("train(0, 0)", -1, x.train(0, 0));
        }
        Yards.due("send 1", 0, given(x, 0, 0, 1));
        Yards.due("send 1000", 1, given(x, 0, 0, 1000));
        Yards.due("train(0, 2)", 1, x.train(0, 2));
        Yards.due("train(1, 2)", 1000, x.train(1, 2));
    }

    private static void sendToNoTrack() {
        Yards.sentence("-1, and nothing is sent, if there is no such track");
        FreightYards x = sending();
        for (int n : NO_TRACKS) {
            Yards.due("send to " + n, -1, given(x, 0, n, 1));
            Yards.due("count(4)", 0, x.count(4));
        }
        Yards.due("send to 0", 0, given(x, 0, 0, 1));
        Yards.due("send to 7", 1, given(x, 0, 7, 1));
    }

    private static void sendTenTrains() {
        Yards.sentence("-1, and nothing is sent, if .. 10 were sent");
        FreightYards x = sending();
        for (int t = 0; t < 10; t++) {
            Yards.due("send", t, given(x, 0, 0, 1));
        }
        Yards.due("the 11th", -1, given(x, 0, 0, 1));
        Yards.due("count(4)", 10, x.count(4));
        for (int what = -1; what <= 5; what++) {
            Yards.due("train(10, " + what + ")", -1, x.train(10, what));
        }
        x = Yards.fresh("ten that are there");
        Yards.loaded(x, "to m(): INT { var DIESEL[] r = new DIESEL[1]; r[0] = new DIESEL(); return send(r, 1, 1); }");
        for (int t = 0; t < 10; t++) {
            given(x, 0, 0, 0);
            Yards.due("tick(1)", 1, x.tick(1));
        }
        Yards.due("the 11th", -1, given(x, 0, 0, 0));
    }

    private static void sendNothing() {
        Yards.sentence("send: r (NOTHING: FAULT 1)");
        FreightYards x = Yards.fresh("send of nothing");
        Yards.loaded(x, "to m(INT n, INT k): INT { return send(none, n, k); }");
        Yards.due("run", 1, x.run(0, 0, 1, 99));
        Yards.due("run to no track", 1, x.run(0, 8, 1, 99));
        Yards.due("run with no miles", 1, x.run(0, 0, 0, 99));
        Yards.due("count(4)", 0, x.count(4));
        Yards.due("count(6)", 3, x.count(6));
    }

    private static void nowIsTheClock() {
        Yards.sentence("now (): the CLOCK");
        FreightYards x = Yards.fresh("now");
        Yards.loaded(x, "to m(): INT { return now(); }");
        Yards.due("now", 0, given(x, 0, 0, 0));
        x.tick(1);
        Yards.due("now", 1, given(x, 0, 0, 0));
        x.tick(200);
        Yards.due("now", 201, given(x, 0, 0, 0));
        x.tick(201);
        Yards.due("now", 201, given(x, 0, 0, 0));
    }

    private static void theClockIsOneMore() {
        Yards.sentence("A TICK: the CLOCK is 1 more");
        FreightYards x = Yards.fresh("the clock");
        for (int i = 0; i < 100; i++) {
            Yards.due("tick(200)", 0, x.tick(200));
        }
        Yards.due("count(5)", 20000, x.count(5));
    }

    /** An object with one train of 4 places to track 0, of which the text puts something on. */
    private static FreightYards train(String puts, int miles) {
        return train(puts, miles, 0);
    }

    private static FreightYards train(String puts, int miles, int a) {
        FreightYards x = Yards.fresh(puts);
        Yards.loaded(x, "to m(INT a) { var VEHICLE[] r = new VEHICLE[4]; " + puts + " send(r, 0, " + miles + "); }");
        Yards.due("run", 0, x.run(0, a, 0, 2000));
        Yards.due("count(4)", 1, x.count(4));
        return x;
    }

    private static void tells(FreightYards x, int state, int miles, int speed, int mass) {
        Yards.due("train(0, 0)", state, x.train(0, 0));
        Yards.due("train(0, 2)", miles, x.train(0, 2));
        Yards.due("train(0, 3)", speed, x.train(0, 3));
        Yards.due("train(0, 4)", mass, x.train(0, 4));
    }

    private static void inOrderOfNumbers() {
        Yards.sentence("then each TRAIN that is ON ITS WAY, in order of numbers");
        FreightYards x = Yards.fresh("one row, three trains");
        // pull is 20 times its fuel, mass 45 and its fuel: 5 gives 2, 4 gives 1, 3 gives 1, 2 gives 0
        Yards.loaded(x, "to m() { var STEAM[] r = new STEAM[1]; r[0] = new STEAM(); r[0].fuel = 5; send(r, 0, 9); "
            + "send(r, 1, 9); send(r, 2, 9); send(r, 3, 9); }");
        x.run(0, 0, 0, 99);
        x.tick(1);
        int[] speed = {2, 1, 1, 0};
        for (int t = 0; t < 4; t++) {
            Yards.due("train(" + t + ", 3)", speed[t], x.train(t, 3));
        }
        x = Yards.fresh("the later one has the track");
        Yards.loaded(x, "to m(INT k) { var DIESEL[] r = new DIESEL[k]; r[0] = new DIESEL(); send(r, 2, 5); }");
        x.run(0, 2, 0, 99);
        x.run(0, 3, 0, 99);
        Yards.due("tick(1)", 2, x.tick(1));
        Yards.due("track(2, 2)", 3, x.track(2, 2));
    }

    private static void massPlacesCountTwice() {
        Yards.sentence("MASS is the sum of that of the VEHICLES of its ROW, place by place (one at two places counts twice)");
        // 4 * 45 of mass, pull 1200, grip 80: 6
        FreightYards x = train("r[0] = new DIESEL(); r[1] = r[0]; r[2] = r[0]; r[3] = r[0];", 100);
        tells(x, 0, 100, 0, 180);
        x.tick(1);
        tells(x, 0, 94, 6, 180);
        // 2 * 65 of mass, pull 800, grip 30: 6; and it burns at each place
        x = train("var STEAM s = new STEAM(); s.fuel = 20; r[1] = s; r[3] = s;", 100);
        tells(x, 0, 100, 0, 130);
        x.tick(1);
        tells(x, 0, 94, 6, 126);
        Yards.due("vehicle(0, 9)", 18, x.vehicle(0, 9));
        Yards.sentence("PULL that of those that are ENGINES, GRIP that of those that BRAKE");
        // 300 of 45 + 17 + 5 is 4; 300 of 45 + 5 is 6, but grip 20 lets it have 5
        x = train("r[0] = new DIESEL(); r[1] = new VAN(); r[2] = new VEHICLE();", 100);
        x.tick(1);
        tells(x, 0, 96, 4, 67);
        x = train("r[0] = new DIESEL(); r[1] = new VEHICLE();", 100);
        x.tick(1);
        tells(x, 0, 95, 5, 50);
    }

    private static void speedOfMassBelowOne() {
        Yards.sentence("its SPEED is PULL divided by MASS (.. 0 if the MASS is below 1)");
        int[] load = {-59, -60, -61, -62, LEAST};
        int[] speed = {5, 0, 0, 0, 0};
        for (int i = 0; i < load.length; i++) {
            // 45 and 15 and the load: 1, 0, -1, ..
            FreightYards x = train("var BOX b = new BOX(); b.load = a; r[0] = b; r[1] = new DIESEL();", 9, load[i]);
            tells(x, 0, 9, 0, 60 + load[i]);
            x.tick(1);
            tells(x, 0, 9 - speed[i], speed[i], 60 + load[i]);
        }
        FreightYards x = train("", 1);
        x.tick(200);
        tells(x, 0, 1, 0, 0);
    }

    private static void speedTowardsZero() {
        Yards.sentence("its SPEED is PULL divided by MASS (towards 0");
        int[] load = {240, 241, 90, 91, 89, 40, 41, 16, 15, 14};
        int[] speed = {1, 0, 2, 1, 2, 3, 2, 3, 4, 4};
        for (int i = 0; i < load.length; i++) {
            FreightYards x = train("var BOX b = new BOX(); b.load = a; r[0] = b; r[1] = new DIESEL();", 99, load[i]);
            x.tick(1);
            tells(x, 0, 99 - speed[i], speed[i], 60 + load[i]);
        }
    }

    private static void speedNotMoreThanGrip() {
        Yards.sentence("but not more than a fifth of GRIP (towards 0) and 1");
        // each could go faster: pull 300 of 45, 150 of 25, 20 * 100 of 145, and with a van or an engine of no pull
        String[] puts = {"r[0] = new DIESEL();", "r[0] = new SHUNTER();",
            "var STEAM s = new STEAM(); s.fuel = 100; r[0] = s;",
            "var BOX b = new BOX(); b.load = -45; r[0] = b; r[1] = new SHUNTER(); r[2] = new VAN();",
            "var BOX b = new BOX(); b.load = -60; r[0] = b; r[1] = new ENGINE(); r[2] = new SHUNTER();",
            "var BOX b = new BOX(); b.load = -100; r[0] = b; r[1] = new DIESEL(); r[2] = new DIESEL();"};
        int[] mass = {45, 25, 145, 12, 25, 5};
        int[] speed = {5, 4, 4, 9, 6, 9};
        for (int i = 0; i < puts.length; i++) {
            FreightYards x = train(puts[i], 99);
            x.tick(1);
            int burnt = i == 2 ? 1 : 0;
            tells(x, 0, 99 - speed[i], speed[i], mass[i] - burnt);
        }
        Yards.sentence("not more than a fifth of GRIP and 1: at it and just below it");
        // grip 20: 5; pull 300 of 60, of 61
        FreightYards x = train("var BOX b = new BOX(); b.load = a; r[0] = b; r[1] = new DIESEL();", 99, 0);
        x.tick(1);
        tells(x, 0, 94, 5, 60);
        x = train("var BOX b = new BOX(); b.load = a; r[0] = b; r[1] = new DIESEL();", 99, 1);
        x.tick(1);
        tells(x, 0, 95, 4, 61);
    }

    private static void speedNotBelowZero() {
        Yards.sentence("not below 0");
        int[] fuel = {-2, -3, -20, -44};
        for (int f : fuel) {
            FreightYards x = train("var STEAM s = new STEAM(); s.fuel = a; r[0] = s;", 9, f);
            x.tick(3);
            tells(x, 0, 9, 0, 45 + f);
            Yards.due("vehicle(0, 9)", f, x.vehicle(0, 9));
        }
    }

    private static void sumsThatWrap() {
        Yards.sentence("INT (32 bits, they wrap): of a TRAIN's MASS and PULL");
        // two loads of the most int are 30 - 2
        FreightYards x = train("var BOX b = new BOX(); b.load = a; r[0] = b; r[1] = b; r[2] = new DIESEL();", 99, MOST);
        tells(x, 0, 99, 0, 73);
        x.tick(1);
        tells(x, 0, 95, 4, 73);
        x = train("var BOX b = new BOX(); b.load = a; r[0] = b; r[1] = new DIESEL();", 99, MOST - 59);
        tells(x, 0, 99, 0, LEAST);
        x.tick(1);
        tells(x, 0, 99, 0, LEAST);
        x = train("var BOX b = new BOX(); b.load = a; r[0] = b; r[1] = new DIESEL();", 99, MOST - 60);
        x.tick(1);
        tells(x, 0, 99, 0, MOST);
        // 20 times the fuel is -20, and with a diesel 280
        x = train("var STEAM s = new STEAM(); s.fuel = a; r[0] = s; r[1] = new DIESEL(); var BOX b = new BOX(); b.load = a; "
            + "r[2] = b;", 99, MOST);
        tells(x, 0, 99, 0, 103);
        x.tick(1);
        tells(x, 0, 97, 2, 102);
    }

    private static void milesLessBySpeed() {
        Yards.sentence("the miles are less by SPEED");
        FreightYards x = train("r[0] = new DIESEL();", 1000);
        for (int i = 1; i < 200; i++) {
            x.tick(1);
            tells(x, 0, 1000 - 5 * i, 5, 45);
        }
        Yards.due("the 200th tick", 1, x.tick(1));
        tells(x, 1, 0, 5, 45);
    }

    private static void burnsIfSpeedIsAboveZero() {
        Yards.sentence("if SPEED is above 0 what BURNS, place by place, has 1 of FUEL less");
        // 40 of 47 is no speed, 60 of 48 is 1
        FreightYards x = train("var STEAM s = new STEAM(); s.fuel = a; r[0] = s;", 9, 2);
        x.tick(5);
        tells(x, 0, 9, 0, 47);
        Yards.due("vehicle(0, 9)", 2, x.vehicle(0, 9));
        x = train("var STEAM s = new STEAM(); s.fuel = a; r[0] = s;", 9, 3);
        x.tick(1);
        tells(x, 0, 8, 1, 47);
        Yards.due("vehicle(0, 9)", 2, x.vehicle(0, 9));
        x.tick(5);
        tells(x, 0, 8, 0, 47);
        x = train("var REEFER f = new REEFER(); f.fuel = 3; r[0] = f; var SHUNTER s = new SHUNTER(); s.fuel = 3; r[1] = s; "
            + "var DIESEL d = new DIESEL(); d.fuel = 3; r[3] = d;", 99);
        x.tick(1);
        for (int v = 0; v < 3; v++) {
            Yards.due("vehicle(" + v + ", 9)", 2, x.vehicle(v, 9));
        }
        Yards.sentence("what BURNS: in the tick in which it comes there, too");
        x = train("var DIESEL d = new DIESEL(); d.fuel = 3; r[0] = d;", 5);
        Yards.due("tick(9)", 1, x.tick(9));
        Yards.due("vehicle(0, 9)", 2, x.vehicle(0, 9));
    }

    private static void burnsFuelAboveZero() {
        Yards.sentence("if it has FUEL above 0");
        int[] fuel = {2, 1, 0, -1, LEAST, MOST};
        int[] then = {1, 0, 0, -1, LEAST, MOST - 1};
        for (int i = 0; i < fuel.length; i++) {
            FreightYards x = train("var REEFER f = new REEFER(); f.fuel = a; f.load = 0 - a; r[0] = f; r[2] = new DIESEL();", 99,
                fuel[i]);
            x.tick(1);
            Yards.due("train(0, 3)", 4, x.train(0, 3));
            Yards.due("vehicle(0, 9)", then[i], x.vehicle(0, 9));
            Yards.due("vehicle(1, 9)", 0, x.vehicle(1, 9));
        }
        FreightYards x = train("var REEFER f = new REEFER(); f.fuel = 1; r[0] = f; r[1] = f; r[2] = new DIESEL();", 99);
        x.tick(1);
        Yards.due("vehicle(0, 9)", 0, x.vehicle(0, 9));
    }

    private static void thereAtNoMiles() {
        Yards.sentence("If the miles are 0 or less: it is THERE");
        for (int miles = 1; miles <= 11; miles++) {
            FreightYards x = train("r[0] = new DIESEL();", miles);
            int ticks = (miles + 4) / 5;
            Yards.due("ticks ahead", 0, x.tick(ticks - 1));
            Yards.due("track(0, 1)", -1, x.track(0, 1));
            tells(x, 0, miles - 5 * (ticks - 1), ticks > 1 ? 5 : 0, 45);
            Yards.due("the last tick", 1, x.tick(1));
            tells(x, 1, 0, 5, 45);
            onTrack(x, 0, 0, 4);
        }
    }

    private static void thereIfItIsBelow() {
        Yards.sentence("it is THERE, if its ROW is BELOW a ROW of what its track states: the track has that ROW; else it STANDS");
        String text = "to m(): INT { var DIESEL[] r = new SHUNTER[2]; r[0] = new SHUNTER(); lay(5, new SHUNTER[7]); "
            + "return send(r, 5, 4); }";
        String below = " 0 1 4 9 15 16 17 ";
        for (int stated = 0; stated < 18; stated++) {
            FreightYards x = Yards.fresh("stated " + stated);
            Yards.loaded(x, text);
            Yards.due("send", 0, given(x, 0, 0, 0));
            Yards.due("state", true, x.state(5, stated));
            boolean there = below.contains(" " + stated + " ");
            onTrack(x, 5, there ? 9 : -1, there ? 7 : 0);
            Yards.due("tick(1)", 1, x.tick(1));
            Yards.due("train(0, 0)", there ? 1 : 2, x.train(0, 0));
            Yards.due("train(0, 2)", 0, x.train(0, 2));
            onTrack(x, 5, there ? 9 : -1, there ? 2 : 0);
        }
        Yards.sentence("else it STANDS: the track keeps what it has");
        FreightYards x = Yards.fresh("a track with boxes");
        Yards.loaded(x, "to m() { var DIESEL[] r = new DIESEL[1]; r[0] = new DIESEL(); send(r, 5, 4); lay(5, new BOX[3]); }");
        x.run(0, 0, 0, 99);
        x.state(5, 13);
        Yards.due("tick(1)", 1, x.tick(1));
        Yards.due("train(0, 0)", 2, x.train(0, 0));
        onTrack(x, 5, 5, 3);
    }

    private static void standsForGood() {
        Yards.sentence("else it STANDS (for good)");
        FreightYards x = train("var DIESEL d = new DIESEL(); d.fuel = 50; r[0] = d;", 4);
        x.state(0, 2);
        Yards.due("tick(1)", 1, x.tick(1));
        tells(x, 2, 0, 4, 69);
        x.state(0, 0);
        Yards.due("tick(50)", 0, x.tick(50));
        tells(x, 2, 0, 4, 69);
        onTrack(x, 0, -1, 0);
        Yards.due("vehicle(0, 9)", 49, x.vehicle(0, 9));
    }

    private static void thereForGood() {
        Yards.sentence("each TRAIN that is ON ITS WAY: one that is THERE goes no more");
        FreightYards x = train("var DIESEL d = new DIESEL(); d.fuel = 50; r[0] = d;", 4);
        Yards.due("tick(1)", 1, x.tick(1));
        x.state(0, 2);
        onTrack(x, 0, -1, 0);
        Yards.due("tick(50)", 0, x.tick(50));
        tells(x, 1, 0, 4, 69);
        onTrack(x, 0, -1, 0);
        Yards.due("vehicle(0, 9)", 49, x.vehicle(0, 9));
    }

    private static void tenTrainsAtOnce() {
        Yards.sentence("tick: how many TRAINS came to be THERE or to STAND");
        FreightYards x = Yards.fresh("ten trains");
        Yards.loaded(x, "to m(INT n, INT k) { var DIESEL[] r = new DIESEL[1]; r[0] = new DIESEL(); send(r, n, k); }");
        for (int t = 0; t < 10; t++) {
            Yards.due("run", 0, x.run(0, t % 8, t < 7 ? 5 : 10, 99));
        }
        x.state(0, 2);
        x.state(1, 13);
        Yards.due("tick(1)", 7, x.tick(1));
        Yards.due("tick(1)", 3, x.tick(1));
        Yards.due("tick(1)", 0, x.tick(1));
        int[] state = {2, 2, 1, 1, 1, 1, 1, 1, 2, 2};
        for (int t = 0; t < 10; t++) {
            Yards.due("train(" + t + ", 0)", state[t], x.train(t, 0));
        }
        x = Yards.fresh("ten trains in one tick()");
        Yards.loaded(x, "to m(INT n, INT k) { var DIESEL[] r = new DIESEL[1]; r[0] = new DIESEL(); send(r, n, k); }");
        for (int t = 0; t < 10; t++) {
            Yards.due("run", 0, x.run(0, t % 8, 100 * (t + 1), 99));
        }
        Yards.due("tick(200)", 10, x.tick(200));
    }
}
