/**
 * Sentences of "==== 3." and promises 18 to 35, 39, 40 that name a bound: nothing, one, all; just enough and one too few;
 * like ones, of which the first is told.
 */
public final class WayEdgesTest {
    /** A row of six places, twenty days between each two, on the last five of twelve roads. */
    private static final String ROW = "places 6;" + Told.times(7, "road 0 to 1 days 20;")
            + "road 0 to 1 days 20;road 1 to 2 days 20;road 2 to 3 days 20;road 3 to 4 days 20;road 4 to 5 days 20;";

    private static void due(String what, long got, long want) {
        Told.due(what, got, want);
    }

    private static void way(BackBridge b, int p, int place, int... roads) {
        for (int i = 0; i < roads.length; i++) {
            due("road " + i + " to " + place, b.way(p, place, i), roads[i]);
        }
        due("no more roads to " + place, b.way(p, place, roads.length), -1);
    }

    private static void loopWay(BackBridge b, int p, int... roads) {
        for (int i = 0; i < roads.length; i++) {
            due("road " + i + " of the loophole", b.loopWay(p, i), roads[i]);
        }
        due("no more roads", b.loopWay(p, roads.length), -1);
    }

    public static void main(String[] args) {
        whereItIs();
        firstAndLastPlaces();
        longestRow();
        beenEverywhere();
        roundsOfWhoHasBeenEverywhere();
        soonestAmongAll();
        waysOfWhoHasBeenEverywhere();
        roadsOfIt();
        firstOfLikeOnes();
        firstByRoadsNotByCount();
        firstOfUnlikeEnds();
        papersBehind();
        reachOneAndAll();
        zeroToNineRoads();
        neededNoneAndAll();
        proofsZeroToNine();
        waivesIfShorter();
        inTimeOnTheDay();
        spareToTheDay();
        helpedByJustOne();
        helpedTheFirst();
        worstIfFewer();
        loopholeBehindTheRoad();
        loopholeNever();
        roundWithoutBridges();
        roundOnceAtLeast();
        crossesNoneAndAll();
        meetAtOnceAndNever();
        meetAtTheFirst();
        dryFromNoneToAll();
        dryRoadGoneTwice();
        safestOfLikeOnes();
        Told.end();
    }

    // "A WAY of a PERSON to a PLACE: it GOES along roads .. (where it is: no roads)"

    private static void whereItIs() {
        BackBridge b = Told.of("places 2;road 0 to 1 days 1 bridge flood 9;person at 0 papers 7;person at 1;");
        for (int p = 0; p < 2; p++) {
            due("no days", b.soonest(p, p), 0);
            due("no roads", b.way(p, p, 0), -1);
            due("papers stay", b.left(p, p), p == 0 ? 7 : 0);
            due("one way of no roads", b.ways(p, p, 0), 1);
            due("no way of no roads", b.ways(p, 1 - p, 0), 0);
            due("none is needed", b.needed(p, p), 0);
            due("no papers", b.proofs(p, p), 0);
            due("none to waive", b.waives(p, p), -1);
            due("dry", b.dry(p, p, 0), 1);
            due("in one", b.dry(p, p, 1), 1);
        }
        b.shut(0);
        due("with all roads shut", b.soonest(0, 0), 0);
    }

    private static void firstAndLastPlaces() {
        for (int places = 2; places <= 6; places++) {
            BackBridge b = Told.of("places " + places + ";road 0 to " + (places - 1) + " days 3;person at 0;");
            due("the last", b.soonest(0, places - 1), 3);
            due("behind the last", b.soonest(0, places), -2);
            due("ahead of the first", b.soonest(0, -1), -2);
            due("the first", b.soonest(0, 0), 0);
            if (places > 2) {
                due("no way", b.soonest(0, 1), -1);
                due("no road of it", b.way(0, 1, 0), -1);
                due("no papers", b.left(0, 1), -1);
                due("no ways", b.ways(0, 1, 9), 0);
                due("none needed", b.needed(0, 1), 0);
                due("by no papers", b.proofs(0, 1), -1);
                due("by no waiver", b.waives(0, 1), -1);
                due("not dry", b.dry(0, 1, 0), -1);
                due("nor in", b.dry(0, 1, 1), -1);
            }
        }
    }

    private static void longestRow() {
        BackBridge b = Told.of(ROW + "person at 0;");
        for (int place = 0; place < 6; place++) {
            due("days", b.soonest(0, place), 20 * place);
        }
        way(b, 0, 5, 0, 8, 9, 10, 11);
    }

    /** Who has been at all six places, without papers: nothing more can change on the way. */
    private static BackBridge everywhere(String roads) {
        BackBridge b = Told.of("places 6;road 0 to 1 days 1;road 1 to 2 days 1;road 2 to 3 days 1;road 3 to 4 days 1;"
                + "road 4 to 5 days 1;" + roads + "person at 0;");
        for (int r = 0; r < 5; r++) {
            b.go(0, r);
        }
        due("been everywhere", b.person(0, 3), 63);
        return b;
    }

    private static void beenEverywhere() {
        BackBridge b = everywhere("road 5 to 0 days 4 bridge;road 0 to 3 days 20 bridge;");
        int[] days = {4, 4, 3, 2, 1, 0};
        for (int place = 0; place < 6; place++) {
            due("days to " + place, b.soonest(0, place), days[place]);
            due("papers at " + place, b.left(0, place), 0);
        }
        way(b, 0, 0, 5);
        way(b, 0, 1, 4, 3, 2, 1);
        due("reach", b.reach(0), 63);
        due("nowhere is new to it", b.loophole(0), -1);
        loopWay(b, 0);
        due("both", b.crosses(0), 0x60);
        due("a round", b.round(0), 4 + 20 + 2);
        b.shut(4);
        due("over the bridge", b.soonest(0, 4), 8);
        way(b, 0, 4, 5, 0, 1, 2, 3);
        due("that is needed", b.needed(0, 4), 0x28);
        due("that is needed", b.needed(0, 3), 0x20);
        due("a round the other way", b.round(0), 4 + 20 + 3 + 4);
    }

    /** Rounds of who has been everywhere: over one bridge, over four, from the last place. */
    private static void roundsOfWhoHasBeenEverywhere() {
        due("over one", everywhere("road 0 to 5 days 4 bridge;").round(0), 8);
        due("over one, and along the row", everywhere("road 0 to 5 days 6 bridge;").round(0), 11);
        BackBridge b = everywhere("road 0 to 5 days 6 bridge;road 1 to 5 days 7 bridge;road 2 to 5 days 8 bridge;"
                + "road 5 to 3 days 9 bridge;");
        due("over four", b.round(0), 6 + 1 + 7 + 8 + 1 + 9);
        due("all of them", b.crosses(0), 0x1e0);
        b.shut(8);
        due("one is shut", b.round(0), -1);
        BackBridge c = Told.of("places 6;road 5 to 0 days 1 bridge;road 5 to 0 days 1 bridge;road 1 to 5 days 1 bridge;"
                + "road 5 to 1 days 1 bridge;person at 5;person at 0;lets:1=1;");
        due("like ones", c.round(0), 4);
        due("from the other end", c.round(1), 4);
    }

    /** Where the first places come to are not the nearest. */
    private static void soonestAmongAll() {
        BackBridge b = everywhere("road 5 to 0 days 20;road 5 to 1 days 9;road 0 to 4 days 2;road 1 to 0 days 3;"
                + "road 5 to 2 days 6;road 2 to 4 days 4;");
        due("to 3", b.soonest(0, 3), 2);
        due("to 0", b.soonest(0, 0), 3);
        way(b, 0, 0, 4, 7);
        due("to 1", b.soonest(0, 1), 4);
        way(b, 0, 1, 4, 3, 2, 1);
        b.shut(4);
        due("to 2 at once", b.soonest(0, 2), 6);
        due("to 0, then", b.soonest(0, 0), 8);
        way(b, 0, 0, 9, 1, 0);
        due("to 4, then", b.soonest(0, 4), 8);
        way(b, 0, 4, 9, 2, 3);
        b.shut(9);
        due("to 1 at once", b.soonest(0, 1), 9);
        due("to 4, then", b.soonest(0, 4), 12);
        way(b, 0, 4, 6, 0, 7);
        due("to 3, then", b.soonest(0, 3), 11);
        b.shut(6);
        due("to 0 at once", b.soonest(0, 0), 20);
        due("to 4, then", b.soonest(0, 4), 22);
        due("to 3, then", b.soonest(0, 3), 23);
        way(b, 0, 3, 5, 0, 1, 2);
        b.shut(1);
        way(b, 0, 3, 5, 7, 3);
        way(b, 0, 2, 5, 7, 3, 2);
    }

    private static void waysOfWhoHasBeenEverywhere() {
        BackBridge b = everywhere("");
        due("there", b.ways(0, 5, 0), 1);
        due("to and fro", b.ways(0, 5, 2), 1);
        due("to and fro", b.ways(0, 5, 4), 2);
        due("to and fro", b.ways(0, 5, 6), 5);
        due("to and fro", b.ways(0, 5, 8), 14);
        due("to the first", b.ways(0, 0, 5), 1);
        due("to the first", b.ways(0, 0, 7), 5);
        due("to the first", b.ways(0, 0, 9), 19);
        due("not in time", b.ways(0, 0, 4), 0);
    }

    // Promise 19: "The i-th road of it. NONE: not so many, there is no WAY; -2; -3: i is below 0."

    private static void roadsOfIt() {
        BackBridge b = Told.of(ROW + "person at 5;");
        due("the first", b.way(0, 0, 0), 11);
        due("the last", b.way(0, 0, 4), 0);
        due("behind the last", b.way(0, 0, 5), -1);
        due("far behind", b.way(0, 0, Integer.MAX_VALUE), -1);
        due("below 0", b.way(0, 0, -1), -3);
        due("far below 0", b.way(0, 0, Integer.MIN_VALUE), -3);
        b.shut(11);
        due("no way", b.way(0, 0, 0), -1);
        due("no way, below 0", b.way(0, 0, -1), -3);
    }

    // "SOONEST: of all the fewest DAYS, of like ones the first by roads."

    private static void firstOfLikeOnes() {
        BackBridge b = Told.of("places 2;road 0 to 1 days 6;road 0 to 1 days 5;road 1 to 0 days 5;road 0 to 1 days 5;"
                + "person at 0;person at 1;");
        way(b, 0, 1, 1);
        way(b, 1, 0, 1);
        b.shut(1);
        way(b, 0, 1, 2);
        b.shut(2);
        way(b, 0, 1, 3);
        b.shut(3);
        way(b, 0, 1, 0);
        due("one day more", b.soonest(0, 1), 6);
    }

    private static void firstByRoadsNotByCount() {
        BackBridge b = Told.of("places 4;road 0 to 1 days 1;road 0 to 3 days 3;road 1 to 2 days 1;road 2 to 3 days 1;"
                + "person at 0;");
        way(b, 0, 3, 0, 2, 3);
        BackBridge c = Told.of("places 4;road 0 to 3 days 3;road 0 to 1 days 1;road 1 to 2 days 1;road 2 to 3 days 1;"
                + "person at 0;");
        way(c, 0, 3, 0);
        BackBridge d = Told.of("places 5;road 0 to 1 days 1;road 1 to 2 days 2;road 1 to 3 days 1;road 3 to 4 days 2;"
                + "road 2 to 4 days 1;person at 0;person at 4;");
        way(d, 0, 4, 0, 1, 4);
        way(d, 1, 0, 3, 2, 0);
    }

    /**
     * Like days by three places, at each of which it has been then, or not, and has paid, or not: whichever roads are
     * told first is told. Roads are told in all orders.
     */
    private static void firstOfUnlikeEnds() {
        String[] first = {"road 0 to 1 days 2", "road 0 to 2 days 2 bridge", "road 0 to 3 days 2"};
        String[] second = {"road 1 to 4 days 3 bridge", "road 2 to 4 days 3", "road 3 to 4 days 3 bridge"};
        int[][] orders = {{0, 1, 2}, {0, 2, 1}, {1, 0, 2}, {1, 2, 0}, {2, 0, 1}, {2, 1, 0}};
        for (int[] one : orders) {
            for (int[] two : orders) {
                StringBuilder land = new StringBuilder("places 6;");
                for (int k = 0; k < 3; k++) {
                    land.append(second[two[k]]).append(';').append(first[one[k]]).append(';');
                }
                BackBridge b = Told.of(land + "person at 0 papers 9;lets:1=1;takes:from*2+1;");
                int over = one[0];
                int then = two[0] == over ? 0 : two[1] == over ? 2 : 4;
                way(b, 0, 4, 1, then);
                due("papers", b.left(0, 4), over == 0 ? 6 : over == 1 ? 8 : 2);
                loopholeOf(b, one);
            }
        }
    }

    /** The first time over a bridge is by two days, but if that one is shut, by five on either side. */
    private static void loopholeOf(BackBridge b, int[] one) {
        int bridge = one[0] == 1 ? 1 : one[1] == 1 ? 3 : 5;
        due("loophole", b.loophole(0), 2);
        loopWay(b, 0, bridge);
        b.shut(bridge);
        int over = one[0] == 1 ? one[1] : one[0];
        due("loophole", b.loophole(0), 5);
        due("its first road", b.loopWay(0, 0), one[0] == 1 ? 3 : 1);
        due("its second road is a bridge from there", b.road(b.loopWay(0, 1), 0), over + 1);
    }

    private static void papersBehind() {
        String land = "places 2;road 0 to 1 days 1 bridge;person at 0 papers 9;lets:1=1;takes:";
        due("all nine", Told.of(land + "0;").left(0, 1), 9);
        due("none", Told.of(land + "9;").left(0, 1), 0);
        due("no way", Told.of(land + "10;").left(0, 1), -1);
        BackBridge b = Told.of("places 2;road 0 to 1 days 2 bridge;road 0 to 1 days 2;person at 0 papers 3;lets:1=1;"
                + "takes:3;");
        due("of like ones that of the first", b.left(0, 1), 0);
        b.shut(0);
        due("of the other one", b.left(0, 1), 3);
    }

    private static void reachOneAndAll() {
        BackBridge b = Told.of(ROW + "person at 5;person at 0;");
        due("all six", b.reach(0), 63);
        b.shut(11);
        due("one", b.reach(0), 32);
        due("all but one", b.reach(1), 31);
        due("behind the last", b.reach(2), -2);
        due("ahead of the first", b.reach(-1), -2);
    }

    // Promise 22: "How many WAYS of just n roads (0 to 9) there are. -2; -3."

    private static void zeroToNineRoads() {
        BackBridge b = Told.of("places 2;" + Told.times(12, "road 0 to 1 days 1;") + "person at 0;");
        long all = 1;
        for (int n = 0; n <= 9; n++) {
            due("there", b.ways(0, n % 2, n), all);
            due("not there", b.ways(0, 1 - n % 2, n), 0);
            all *= 12;
        }
        due("ten", b.ways(0, 0, 10), -3);
        due("below none", b.ways(0, 0, -1), -3);
        due("least", b.ways(0, 0, Integer.MIN_VALUE), -3);
        due("most", b.ways(0, 0, Integer.MAX_VALUE), -3);
        b.shut(11);
        due("one is shut", b.ways(0, 1, 9), 2357947691L);
        BackBridge c = Told.of("places 2;road 0 to 1 days 1 bridge;person at 0 papers 4;lets:1=1;takes:1;");
        for (int n = 0; n <= 9; n++) {
            due("as long as papers last", c.ways(0, n % 2, n), n <= 4 ? 1 : 0);
        }
    }

    // Promise 23: "Roads each of which, SHUT, would leave no WAY, as bits (0: there is none anyhow)."

    private static void neededNoneAndAll() {
        BackBridge b = Told.of(ROW + "person at 0;");
        due("four of the row", b.needed(0, 5), 0xf00);
        for (int r = 0; r < 7; r++) {
            b.shut(r);
        }
        due("the last open one, too", b.needed(0, 5), 0xf80);
        due("that one alone", b.needed(0, 1), 0x80);
        b.shut(7);
        due("none anyhow", b.needed(0, 5), 0);
        due("none anyhow", b.needed(0, 1), 0);
    }

    // Promise 24: "The fewest PAPERS (0 to 9) by which, had it just so many, there would be a WAY. NONE: by none."

    private static void proofsZeroToNine() {
        for (int n = 0; n <= 10; n++) {
            BackBridge b = Told.of("places 2;road 0 to 1 days 1 bridge;person at 0 papers 4;lets:1=1;takes:" + n + ";");
            due("it takes " + n, b.proofs(0, 1), n <= 9 ? n : -1);
            BackBridge c = Told.of("places 2;road 0 to 1 days 1 bridge;person at 0 papers 4;lets:papers=" + n + ";");
            due("just " + n, c.proofs(0, 1), n <= 9 ? n : -1);
            due("papers stay", c.person(0, 2), 4);
        }
        BackBridge d = Told.of("places 3;road 0 to 1 days 1 bridge;road 1 to 2 days 1 bridge;person at 0;lets:1=1;takes:5;");
        due("ten in all", d.proofs(0, 2), -1);
        BackBridge e = Told.of("places 3;road 0 to 1 days 1 bridge;road 1 to 2 days 1 bridge;person at 0;lets:1=1;"
                + "takes:5-from;");
        due("nine in all", e.proofs(0, 2), 9);
        BackBridge f = Told.of("places 3;road 0 to 1 days 1 bridge;road 1 to 2 days 1;person at 1;person at 2;");
        due("by no papers will it have been there", f.proofs(0, 0), -1);
        due("by no papers will it have been there", f.proofs(1, 0), -1);
    }

    // Promise 25: "if shorter than now (or there were one at all), the first"

    private static void waivesIfShorter() {
        for (int days = 4; days <= 6; days++) {
            BackBridge b = Told.of("places 2;road 0 to 1 days 5;road 0 to 1 days " + days + " bridge;person at 0;");
            due("of " + days + " days", b.waives(0, 1), days < 5 ? 1 : -1);
            b.shut(0);
            due("one at all", b.waives(0, 1), 1);
            b.shut(1);
            due("none that is open", b.waives(0, 1), -1);
        }
        BackBridge c = Told.of("places 2;road 0 to 1 days 9;road 0 to 1 days 7 bridge;road 0 to 1 days 6 bridge;"
                + "road 0 to 1 days 6 bridge;person at 0;");
        due("the shortest, the first", c.waives(0, 1), 2);
        c.shut(2);
        due("the next", c.waives(0, 1), 3);
        BackBridge d = Told.of("places 3;road 0 to 1 days 1 bridge;road 1 to 2 days 1 bridge;person at 0;person at 0 born 2;");
        due("two would be to waive", d.waives(0, 2), -1);
        due("one of two", d.waives(1, 2), 0);
        BackBridge e = Told.of("places 2;road 0 to 1 days 1 bridge;person at 0 papers 2;lets:1=1;takes:3;");
        due("that takes too many papers", e.waives(0, 1), 0);
    }

    // Promise 26: "Whose ERRANDS are DONE, or would be, each by its SOONEST WAY from now, as bits."

    private static void inTimeOnTheDay() {
        BackBridge b = Told.of("places 3;road 0 to 1 days 5;person at 0 to 1 by 4;person at 0 to 1 by 5;"
                + "person at 0 to 1 by 6;person at 0;person at 0 to 2 by 999;person at 1 to 1 by 0;");
        due("at first", b.inTime(), 2 + 4 + 32);
        b.days(1);
        due("a day later", b.inTime(), 4 + 32);
        b.days(1);
        due("two days later", b.inTime(), 32);
        due("nobody", new BackBridge().inTime(), 0);
        BackBridge c = Told.of("places 2;" + Told.times(6, "person at 0 to 0 by 0;"));
        due("all six", c.inTime(), 63);
        BackBridge d = Told.of("places 2;road 0 to 1 days 5;person at 0 to 1 by 4;");
        d.go(0, 0);
        due("there, but late", d.inTime(), 0);
        due("there, none to spare", d.spare(0), -1);
    }

    // Promise 27: "How many DAYS a PERSON could wait .. NONE: it can't; -2; -5: it has none, it is DONE."

    private static void spareToTheDay() {
        for (int by = 4; by <= 7; by++) {
            BackBridge b = Told.of("places 2;road 0 to 1 days 5;person at 0 to 1 by " + by + ";");
            due("by " + by, b.spare(0), Math.max(-1, by - 5));
        }
        BackBridge c = Told.of("places 2;road 0 to 1 days 1;person at 0 to 1 by 999;person at 1 to 1 by 0;person at 0;");
        due("most", c.spare(0), 998);
        due("done", c.spare(1), -5);
        due("no errand", c.spare(2), -5);
        due("nobody", c.spare(3), -2);
        due("nobody", c.spare(-1), -2);
        c.shut(0);
        due("no way", c.spare(0), -1);
        due("done, shut or not", c.spare(1), -5);
        c.shut(0);
        for (int i = 0; i < 10; i++) {
            c.days(99);
        }
        c.days(8);
        due("none to wait", c.spare(0), 0);
        c.days(1);
        due("too late", c.spare(0), -1);
    }

    // Promise 28: "had it one PAPER more, and can't be else (the first). NONE: nobody."

    private static void helpedByJustOne() {
        for (int has = 0; has <= 9; has++) {
            String land = "places 2;road 0 to 1 days 1 bridge;person at 0 papers " + has + " to 1 by 1;lets:1=1;takes:";
            due("enough", Told.of(land + has + ";").helped(), -1);
            due("one too few of " + (has + 1), Told.of(land + (has + 1) + ";").helped(), has < 9 ? 0 : -1);
            due("two too few", Told.of(land + (has + 2) + ";").helped(), -1);
            BackBridge b = Told.of(land + (has + 1) + ";");
            b.days(1);
            due("too late by then", b.helped(), -1);
            due("by no papers will it have been there", Told.of("places 3;road 0 to 1 days 1 bridge;road 1 to 2 days 1;"
                    + "person at 1 papers " + has + " to 0 by 9;person at 2 papers " + has + " to 0 by 9;").helped(), -1);
        }
    }

    private static void helpedTheFirst() {
        String land = "places 2;road 0 to 1 days 1 bridge;person at 1 to 1 by 0;person at 0;person at 0 to 1 by 0;"
                + "person at 0 papers 1 to 1 by 1;person at 0 to 1 by 1;person at 0 to 1 by 1;lets:1=1;takes:1;";
        BackBridge b = Told.of(land);
        due("the first whom it helps", b.helped(), 4);
        b.forge(4);
        due("late by forging", b.helped(), 5);
        due("in time else", b.inTime(), 1 + 8);
        b.undo(1);
        b.give(3, 4, 1);
        due("who gave it needs one", b.helped(), 3);
        b.shut(0);
        due("nobody", b.helped(), -1);
        due("nobody at all", new BackBridge().helped(), -1);
    }

    // Promise 29: "The open road that, SHUT, would leave fewest ERRANDS in time .. if fewer than now, the first."

    private static void worstIfFewer() {
        BackBridge b = Told.of("places 3;road 0 to 1 days 1;road 0 to 1 days 2;road 0 to 2 days 1;road 0 to 2 days 1;"
                + "person at 0 to 1 by 2;person at 0 to 2 by 9;person at 1 to 1 by 0;");
        due("none is fewer", b.worst(), -1);
        b.days(1);
        due("one fewer", b.worst(), 0);
        b.shut(2);
        due("the first of like ones", b.worst(), 0);
        b.shut(0);
        due("the only one", b.worst(), 3);
        b.shut(3);
        due("none in time but who is done", b.worst(), -1);
        BackBridge c = Told.of("places 3;road 0 to 1 days 1;road 1 to 2 days 1;person at 0 to 1 by 9;person at 1 to 2 by 9;"
                + "person at 1 to 2 by 9;");
        due("two fewer ahead of one", c.worst(), 1);
        BackBridge e = Told.of("places 3;road 0 to 1 days 1;road 0 to 1 days 2;road 1 to 2 days 1;person at 0 to 1 by 1;"
                + "person at 0 to 1 by 2;person at 0 to 1 by 9;person at 0 to 1 by 2;person at 0 to 1 by 2;person at 0 to 0 by 0;");
        due("one is late, four are not", e.worst(), 0);
        BackBridge f = Told.of("places 3;road 0 to 1 days 1;road 1 to 2 days 1;" + Told.times(4, "person at 0 to 0 by 0;")
                + "person at 1 to 2 by 9;person at 0 to 2 by 9;");
        due("the fifth and the sixth", f.worst(), 1);
        f.go(5, 0);
        due("both from there", f.worst(), 1);
        f.go(4, 1);
        due("the sixth alone", f.worst(), 1);
        BackBridge d = Told.of(ROW + "person at 4 to 5 by 20;");
        due("the last road", d.worst(), 11);
        d.shut(11);
        due("none", d.worst(), -1);
        due("nobody", new BackBridge().worst(), -1);
    }

    // "GOING: it GOES over a BRIDGE to a PLACE where it has never BEEN."
    // Promise 30: "The fewest DAYS till a PERSON, by roads, is GOING (behind that road)."

    private static void loopholeBehindTheRoad() {
        BackBridge b = Told.of("places 3;road 0 to 1 days 20 bridge;road 0 to 2 days 9;road 2 to 1 days 10 bridge;"
                + "person at 0;person at 0 born 1;person at 0 born 2;lets:1=1;");
        due("its days, too", b.loophole(0), 19);
        loopWay(b, 0, 1, 2);
        due("where it was born it has been", b.loophole(1), 30);
        loopWay(b, 1, 0, 2);
        b.shut(2);
        due("the other bridge", b.loophole(0), 20);
        loopWay(b, 0, 0);
        due("none where it has never been", b.loophole(1), -1);
        b.shut(2);
        due("by where it was born", b.loophole(2), 19);
        due("i below 0", b.loopWay(0, -1), -3);
        due("far below 0", b.loopWay(0, Integer.MIN_VALUE), -3);
        due("far behind", b.loopWay(0, Integer.MAX_VALUE), -1);
        BackBridge c = Told.of("places 3;road 0 to 1 days 5 bridge;road 0 to 2 days 2;road 2 to 1 days 3 bridge;"
                + "road 0 to 1 days 5 bridge;person at 0;lets:1=1;");
        loopWay(c, 0, 0);
        c.shut(0);
        loopWay(c, 0, 1, 2);
        c.shut(2);
        loopWay(c, 0, 3);
    }

    private static void loopholeNever() {
        BackBridge b = Told.of("places 3;road 0 to 1 days 1 bridge;road 1 to 2 days 1;person at 0;person at 0 born 1;");
        for (int p = 0; p < 2; p++) {
            due("the law lets only back", b.loophole(p), -1);
            loopWay(b, p);
            due("i below 0", b.loopWay(p, -1), -3);
        }
        due("nobody", b.loophole(2), -2);
        due("nobody", b.loopWay(2, 0), -2);
        due("nobody", b.loophole(-1), -2);
        due("nobody", b.loopWay(-1, 0), -2);
        due("no bridge at all", Told.of("places 2;road 0 to 1 days 1;person at 0;").loophole(0), -1);
        BackBridge c = Told.of("places 3;road 0 to 1 days 1 bridge;road 1 to 2 days 1;person at 0;person at 1;lets:who=0;");
        loopWay(c, 0, 0);
        loopWay(c, 1);
        way(c, 0, 2, 0, 1);
        loopWay(c, 1);
        way(c, 1, 0);
        way(c, 0, 2, 0, 1);
        way(c, 1, 0);
    }

    // "A ROUND: a WAY by which it is in the end where it is now, having gone over each BRIDGE once at least"
    // Promise 32: "how many DAYS (0: there is no BRIDGE). NONE: there is none; -2."

    private static void roundWithoutBridges() {
        BackBridge b = Told.of("places 2;road 0 to 1 days 1;person at 0;");
        due("no bridge", b.round(0), 0);
        b.shut(0);
        due("no bridge, all shut", b.round(0), 0);
        due("nobody", b.round(1), -2);
        due("nobody", b.round(-1), -2);
        BackBridge c = Told.of("places 2;road 0 to 1 days 1 bridge;person at 0;");
        due("never over it", c.round(0), -1);
    }

    private static void roundOnceAtLeast() {
        BackBridge b = Told.of("places 2;road 0 to 1 days 20 bridge;person at 0 papers 2;person at 0 papers 1;lets:1=1;"
                + "takes:1;");
        due("over and back", b.round(0), 40);
        due("not back", b.round(1), -1);
        String four = "places 5;road 0 to 1 days 1 bridge;road 0 to 2 days 2 bridge;road 0 to 3 days 3 bridge;"
                + "road 0 to 4 days 4 bridge;person at 0 papers 8;person at 0 papers 7;person at 4 papers 8;lets:1=1;";
        BackBridge c = Told.of(four + "takes:1;");
        due("four, each twice", c.round(0), 20);
        due("a paper too few", c.round(1), -1);
        due("from the end of one", c.round(2), 20);
        c.shut(3);
        due("one is shut", c.round(0), -1);
        BackBridge d = Told.of("places 2;" + Told.times(8, "road 0 to 1 days 20;") + "road 0 to 1 days 1 bridge;"
                + "road 0 to 1 days 2 bridge;road 0 to 1 days 3 bridge;road 0 to 1 days 4 bridge;person at 0;lets:1=1;");
        due("four, each once", d.round(0), 10);
        d.shut(8);
        due("one is shut", d.round(0), -1);
    }

    private static void crossesNoneAndAll() {
        String land = "places 2;" + Told.times(8, "road 0 to 1 days 20;") + Told.times(4, "road 0 to 1 days 1 bridge;");
        BackBridge b = Told.of(land + "person at 0;person at 0 papers 1;lets:papers>0;takes:1;");
        due("none", b.crosses(0), 0);
        due("each of four by the one paper", b.crosses(1), 0xf00);
        b.shut(11);
        due("but for one that is shut", b.crosses(1), 0x700);
        due("no bridges", Told.of("places 2;road 0 to 1 days 1;person at 0;").crosses(0), 0);
        due("nobody", b.crosses(2), -2);
        due("nobody", b.crosses(-1), -2);
    }

    // Promises 34, 35: "The fewest DAYS from now on both in which two can be at one PLACE .. NONE: never; -2: PEOPLE, both
    // one." "That PLACE, the first."

    private static void meetAtOnceAndNever() {
        BackBridge b = Told.of("places 6;road 4 to 5 days 20;person at 5;person at 5;person at 0;person at 4;");
        due("at once", b.meet(0, 1), 0);
        due("there", b.meetAt(0, 1), 5);
        due("never", b.meet(0, 2), -1);
        due("nowhere", b.meetAt(2, 0), -1);
        due("by twenty days", b.meet(0, 3), 20);
        due("the first of both", b.meetAt(0, 3), 4);
        b.shut(0);
        due("never", b.meet(0, 3), -1);
        due("at once, all shut", b.meet(1, 0), 0);
        for (int p = 0; p < 4; p++) {
            due("both one", b.meet(p, p), -2);
            due("both one", b.meetAt(p, p), -2);
            due("behind the last", b.meet(p, 4), -2);
            due("behind the last", b.meetAt(4, p), -2);
            due("ahead of the first", b.meet(-1, p), -2);
            due("ahead of the first", b.meetAt(p, -1), -2);
        }
    }

    private static void meetAtTheFirst() {
        BackBridge b = Told.of("places 5;road 0 to 4 days 3;road 1 to 4 days 3;road 0 to 3 days 2;road 1 to 3 days 3;"
                + "road 0 to 2 days 3;road 1 to 2 days 1;person at 0;person at 1;");
        due("the later of both", b.meet(0, 1), 3);
        due("of three like ones", b.meetAt(0, 1), 2);
        b.shut(4);
        due("of two like ones", b.meetAt(0, 1), 3);
        b.shut(2);
        due("the last one", b.meetAt(0, 1), 4);
        b.days(9);
        b.forge(1);
        due("days they have don't count", b.meet(1, 0), 3);
    }

    private static void dry(BackBridge b, int place, long above, long below) {
        due("above, to " + place, b.dry(0, place, 0), above);
        due("below, to " + place, b.dry(0, place, 1), below);
    }

    // "DRY: each road is flooded as likely as told .. (a road that is gone twice counts once), in lowest terms."

    private static void dryFromNoneToAll() {
        int[][] terms = {{1, 1}, {9, 10}, {4, 5}, {7, 10}, {3, 5}, {1, 2}, {2, 5}, {3, 10}, {1, 5}, {1, 10}, {0, 1}};
        for (int flood = 0; flood <= 10; flood++) {
            BackBridge b = Told.of("places 2;road 0 to 1 days 1 flood " + flood + ";person at 0;");
            dry(b, 1, terms[flood][0], terms[flood][1]);
            due("what 2", b.dry(0, 1, 2), -2);
            due("what -1", b.dry(0, 1, -1), -2);
        }
        String[] floods = {"1", "2", "5", "8", "10"};
        long[] above = {59049, 1024, 1, 1, 0};
        long[] below = {100000, 3125, 32, 3125, 1};
        for (int i = 0; i < floods.length; i++) {
            StringBuilder land = new StringBuilder("places 6;");
            for (int r = 0; r < 5; r++) {
                land.append("road ").append(r).append(" to ").append(r + 1).append(" days 1 flood ").append(floods[i])
                        .append(';');
            }
            dry(Told.of(land + "person at 0;"), 5, above[i], below[i]);
        }
        BackBridge c = Told.of("places 3;road 0 to 1 days 1 flood 10;road 1 to 2 days 1 flood 3;person at 0;");
        dry(c, 2, 0, 1);
    }

    /** Over many roads, some of them gone twice, till it has been at five places. */
    private static void dryRoadGoneTwice() {
        BackBridge b = Told.of("places 6;road 0 to 1 days 1 flood 1;road 0 to 2 days 1 flood 1;road 0 to 3 days 1 flood 1;"
                + "road 0 to 4 days 1 flood 1;road 0 to 5 days 1 bridge flood 1;person at 0;lets:seen=5;");
        way(b, 0, 5, 0, 0, 1, 1, 2, 2, 3, 3, 4);
        dry(b, 5, 59049, 100000);
        due("days", b.soonest(0, 5), 9);
    }

    // Promise 40: "The PLACE, not where it is, whose SOONEST WAY is likeliest DRY, the first. NONE: there is none; -2."

    private static void safestOfLikeOnes() {
        BackBridge b = Told.of("places 6;road 0 to 5 days 1 flood 10;person at 0;person at 1;person at 5;");
        due("never dry, the only one", b.safest(0), 5);
        due("none", b.safest(1), -1);
        due("the other way", b.safest(2), 0);
        due("nobody", b.safest(3), -2);
        due("nobody", b.safest(-1), -2);
        BackBridge c = Told.of("places 4;road 0 to 3 days 1;road 0 to 2 days 1;road 0 to 1 days 1 flood 1;person at 0;"
                + "person at 1;person at 3;");
        due("sure ones, the first", c.safest(0), 2);
        due("all alike", c.safest(1), 0);
        due("not where it is", c.safest(2), 0);
        BackBridge d = Told.of("places 4;road 0 to 1 days 1 flood 5;road 0 to 2 days 1 flood 2;road 2 to 3 days 1 flood 5;"
                + "road 0 to 3 days 3;person at 0;");
        due("by its soonest way alone", d.safest(0), 2);
        BackBridge e = Told.of("places 4;road 0 to 1 days 1 flood 6;road 0 to 2 days 1 flood 2;road 2 to 3 days 1 flood 5;"
                + "person at 3;");
        due("4 in 10 by two roads, 5 in 10", e.safest(0), 2);
        BackBridge f = Told.of("places 4;road 0 to 1 days 1 flood 9;road 1 to 2 days 1;road 0 to 3 days 3 flood 1;"
                + "road 0 to 2 days 9;person at 0;");
        due("9 in 10", f.safest(0), 3);
        BackBridge g = Told.of("places 6;road 0 to 1 days 1 flood 3;road 0 to 2 days 1 flood 1;road 2 to 3 days 1 flood 1;"
                + "person at 3;person at 0;");
        due("7 in 10, or 81 in 100", g.safest(0), 2);
        g.go(1, 0);
        due("by 7 in 10", g.safest(1), 0);
        BackBridge h = Told.of("places 5;road 0 to 1 days 1 flood 9;road 0 to 2 days 2 flood 1;road 0 to 3 days 1;"
                + "road 3 to 2 days 1 flood 1;road 2 to 4 days 1 flood 1;person at 0;");
        h.shut(2);
        due("one road of 1 in 10, one of 9 in 10, two of 81 in 100", h.safest(0), 2);
        for (int flood = 0; flood <= 10; flood++) {
            BackBridge m = Told.of("places 4;road 0 to 3 days 1 flood " + flood + ";road 3 to 2 days 1;road 2 to 1 days 1;"
                    + "person at 0;");
            due("by three roads as likely as by one", m.safest(0), 1);
        }
        BackBridge k = Told.of("places 4;road 0 to 1 days 1 flood 9;road 0 to 3 days 1 flood 9;road 3 to 2 days 1 flood 1;"
                + "person at 2;");
        due("9 in 10, 9 in 100, 9 in 1000", k.safest(0), 3);
    }
}
