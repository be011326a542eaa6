/** Promises 18 to 25: the soonest way, papers behind it, places, how many ways, roads needed, papers, waivers. */
public final class WaysTest {
    private static void due(String what, long got, long want) {
        Told.due(what, got, want);
    }

    private static void way(BackBridge b, int p, int place, int... roads) {
        for (int i = 0; i < roads.length; i++) {
            due("road " + i + " to " + place, b.way(p, place, i), roads[i]);
        }
        due("no more roads to " + place, b.way(p, place, roads.length), -1);
    }

    public static void main(String[] args) {
        plainWays();
        firstByRoads();
        firstAmongStates();
        throughBridges();
        detours();
        papersCount();
        longWay();
        reaching();
        counting();
        needing();
        proving();
        waiving();
        wrongOnes();
        nothingChanges();
        Told.end();
    }

    private static void plainWays() {
        BackBridge b = Told.of("places 5;road 0 to 1 days 4;road 1 to 2 days 4;road 2 to 0 days 9;road 2 to 3 days 1;"
                + "person at 0 papers 3;person at 3;");
        due("where it is", b.soonest(0, 0), 0);
        way(b, 0, 0);
        due("papers where it is", b.left(0, 0), 3);
        due("soonest", b.soonest(0, 1), 4);
        way(b, 0, 1, 0);
        due("over two roads", b.soonest(0, 2), 8);
        way(b, 0, 2, 0, 1);
        due("over three", b.soonest(0, 3), 9);
        way(b, 0, 3, 0, 1, 3);
        due("backwards", b.soonest(1, 0), 9);
        way(b, 1, 0, 3, 1, 0);
        due("no way", b.soonest(0, 4), -1);
        way(b, 0, 4);
        due("papers without a way", b.left(0, 4), -1);
        b.shut(1);
        due("shut", b.soonest(0, 2), 9);
        way(b, 0, 2, 2);
        b.shut(2);
        due("both shut", b.soonest(0, 3), -1);
        b.days(5);
        due("days don't count", b.soonest(0, 1), 4);
    }

    private static void firstByRoads() {
        BackBridge b = Told.of("places 4;road 1 to 3 days 2;road 0 to 2 days 3;road 2 to 3 days 2;road 0 to 1 days 3;"
                + "road 0 to 3 days 5;person at 0;");
        due("three like ones", b.soonest(0, 3), 5);
        way(b, 0, 3, 1, 2);
        b.shut(2);
        way(b, 0, 3, 3, 0);
        b.shut(0);
        way(b, 0, 3, 4);
        BackBridge c = Told.of("places 2;road 0 to 1 days 3;road 0 to 1 days 2;road 1 to 0 days 2;person at 0;");
        way(c, 0, 1, 1);
        BackBridge d = Told.of("places 6;road 0 to 1 days 1;road 1 to 2 days 1;road 2 to 5 days 1;road 0 to 3 days 1;"
                + "road 3 to 4 days 1;road 4 to 5 days 1;road 1 to 4 days 1;person at 0;");
        way(d, 0, 5, 0, 1, 2);
        way(d, 0, 4, 0, 6);
    }

    /** The like ways end in unlike states: been elsewhere, fewer papers. */
    private static void firstAmongStates() {
        BackBridge b = Told.of("places 4;road 0 to 1 days 1 bridge;road 0 to 2 days 1;road 2 to 3 days 1;"
                + "road 1 to 3 days 1;person at 0 papers 4;lets:1=1;takes:2;");
        due("soonest", b.soonest(0, 3), 2);
        way(b, 0, 3, 0, 3);
        due("papers of the first", b.left(0, 3), 2);
        BackBridge c = Told.of("places 4;road 0 to 2 days 1;road 0 to 1 days 1 bridge;road 2 to 3 days 1;"
                + "road 1 to 3 days 1;person at 0 papers 4;lets:1=1;takes:2;");
        way(c, 0, 3, 0, 2);
        due("papers of the first", c.left(0, 3), 4);
    }

    private static void throughBridges() {
        BackBridge b = Told.of("places 3;road 0 to 1 days 1 bridge;road 1 to 2 days 1;road 2 to 0 days 5;"
                + "person at 0;person at 0 born 1;");
        due("round about", b.soonest(0, 1), 6);
        way(b, 0, 1, 2, 1);
        due("back", b.soonest(1, 1), 1);
        way(b, 1, 1, 0);
        due("on from there", b.soonest(1, 2), 2);
        b.go(0, 2);
        b.go(0, 1);
        due("now it may go back", b.soonest(0, 0), 1);
        way(b, 0, 0, 0);
    }

    /** It goes somewhere only so as to have been there. */
    private static void detours() {
        BackBridge b = Told.of("places 4;road 0 to 1 days 1;road 0 to 2 days 1;road 0 to 3 days 1 bridge;"
                + "person at 0;lets:seen>2;");
        due("been at two more", b.soonest(0, 3), 5);
        way(b, 0, 3, 0, 0, 1, 1, 2);
        due("dry counts roads once", b.dry(0, 3, 1), 1);
    }

    private static void papersCount() {
        BackBridge b = Told.of("places 4;road 0 to 1 days 1 bridge;road 1 to 2 days 1 bridge;road 2 to 3 days 1 bridge;"
                + "road 0 to 3 days 19;person at 0 papers 3;person at 0 papers 2;person at 0 papers 9;"
                + "lets:1=1;takes:1;");
        due("three papers", b.soonest(0, 3), 3);
        due("none left", b.left(0, 3), 0);
        due("two papers", b.soonest(1, 3), 19);
        due("two left", b.left(1, 3), 2);
        due("one left", b.left(1, 1), 1);
        due("nine", b.left(2, 2), 7);
        BackBridge d = Told.of("places 2;road 0 to 1 days 1 bridge;road 0 to 1 days 9;person at 0;person at 0;"
                + "lets:who=1;");
        due("not this one", d.soonest(0, 1), 9);
        due("the other one", d.soonest(1, 1), 1);
        due("ways of this one", d.ways(0, 1, 1), 1);
        due("ways of the other one", d.ways(1, 1, 1), 2);
        BackBridge c = Told.of("places 2;road 0 to 1 days 1 bridge;person at 0 papers 9;lets:1=1;takes:10;");
        due("more than can be had", c.soonest(0, 1), -1);
    }

    /** It must be without papers before it is let on: each time over takes 1, each time back 2. */
    private static void longWay() {
        String land = "places 3;road 0 to 1 days 1 bridge;road 1 to 2 days 1 bridge;person at 0 papers 9;"
                + "person at 0 papers 7;lets:to<2 or papers=0;takes:2-to;";
        BackBridge b = Told.of(land);
        due("never without papers there", b.soonest(0, 2), -1);
        due("over and back", b.soonest(1, 2), 6);
        way(b, 1, 2, 0, 0, 0, 0, 0, 1);
        due("papers", b.left(1, 2), 0);
        due("one way of six roads", b.ways(1, 2, 6), 1);
    }

    private static void reaching() {
        BackBridge b = Told.of("places 5;road 0 to 1 days 1;road 1 to 2 days 1 bridge;road 3 to 4 days 1;"
                + "person at 0;person at 4 born 3;person at 1 born 2;");
        due("reach", b.reach(0), 3);
        due("reach", b.reach(1), 24);
        due("reach back", b.reach(2), 7);
        b.shut(0);
        due("where it is", b.reach(0), 1);
        due("nobody", b.reach(3), -2);
        due("nobody", b.reach(-1), -2);
    }

    private static void counting() {
        BackBridge b = Told.of("places 3;road 0 to 1 days 1;road 0 to 1 days 7;road 1 to 2 days 3 bridge;"
                + "person at 0 papers 2;lets:1=1;takes:1;");
        due("no roads, there", b.ways(0, 0, 0), 1);
        due("no roads, elsewhere", b.ways(0, 1, 0), 0);
        due("one road", b.ways(0, 1, 1), 2);
        due("one road back", b.ways(0, 0, 1), 0);
        due("two roads", b.ways(0, 0, 2), 4);
        due("over the bridge", b.ways(0, 2, 2), 2);
        due("over, back", b.ways(0, 1, 3), 8 + 2);
        due("papers end", b.ways(0, 2, 4), 8);
        due("nine", b.ways(0, 1, 9), 512 + 128 * 4);
        due("below none", b.ways(0, 1, -1), -3);
        due("ten", b.ways(0, 1, 10), -3);
        due("nobody", b.ways(1, 1, 10), -2);
        due("nowhere", b.ways(0, 3, 1), -2);
        due("nowhere", b.ways(0, -1, 1), -2);
        BackBridge c = Told.of("places 2;" + "road 0 to 1 days 1;".repeat(12) + "person at 0;");
        due("more than an int", c.ways(0, 1, 9), 5159780352L);
        c.shut(3);
        due("a road less", c.ways(0, 1, 1), 11);
    }

    private static void needing() {
        BackBridge b = Told.of("places 5;road 0 to 1 days 1;road 1 to 2 days 1;road 1 to 2 days 9;road 2 to 3 days 1;"
                + "person at 0;");
        due("needed", b.needed(0, 3), 9);
        due("where it is", b.needed(0, 0), 0);
        due("no way anyhow", b.needed(0, 4), 0);
        b.shut(1);
        due("the other one then", b.needed(0, 3), 13);
        due("shut stays", b.count(4), 2);
        BackBridge c = Told.of("places 4;road 0 to 1 days 1;road 0 to 2 days 1;road 0 to 3 days 1 bridge;person at 0;"
                + "lets:seen>2;");
        due("roads by which it is let", c.needed(0, 3), 7);
    }

    private static void proving() {
        BackBridge b = Told.of("places 4;road 0 to 1 days 1 bridge;road 1 to 2 days 1 bridge;road 2 to 3 days 1 bridge;"
                + "person at 0 papers 9;lets:to<3 or papers=5;takes:2;");
        due("where it is", b.proofs(0, 0), 0);
        due("one bridge", b.proofs(0, 1), 2);
        due("two bridges", b.proofs(0, 2), 4);
        due("just so many", b.proofs(0, 3), 9);
        due("its papers stay", b.person(0, 2), 9);
        b.shut(2);
        due("by none", b.proofs(0, 3), -1);
        BackBridge c = Told.of("places 2;road 0 to 1 days 1 bridge;person at 0 papers 9;lets:papers<1;");
        due("none but none", c.proofs(0, 1), 0);
        due("has too many", c.soonest(0, 1), -1);
    }

    private static void waiving() {
        BackBridge b = Told.of("places 4;road 0 to 1 days 3 bridge;road 0 to 1 days 2 bridge;road 0 to 1 days 2 bridge;"
                + "road 0 to 1 days 9;road 1 to 2 days 1 bridge;person at 0;person at 0 born 1;");
        due("the shortest, the first", b.waives(0, 1), 1);
        due("where it is", b.waives(0, 0), -1);
        due("there were one at all", b.waives(0, 2), 4);
        due("never", b.waives(0, 3), -1);
        due("no shorter one", b.waives(1, 1), -1);
        b.shut(1);
        due("shut is shut", b.waives(0, 1), 2);
        b.shut(3);
        due("any at all", b.waives(0, 1), 2);
        b.shut(2);
        due("the last", b.waives(0, 1), 0);
        BackBridge c = Told.of("places 2;road 0 to 1 days 4 bridge;road 0 to 1 days 4;person at 0;");
        due("not shorter", c.waives(0, 1), -1);
        due("bridges stay", c.count(3), 1);
    }

    private static void wrongOnes() {
        BackBridge b = Told.of("places 2;road 0 to 1 days 1;person at 0;");
        int[][] wrong = {{1, 0}, {-1, 0}, {0, 2}, {0, -1}, {Integer.MAX_VALUE, 0}, {0, Integer.MIN_VALUE}};
        for (int[] w : wrong) {
            due("soonest", b.soonest(w[0], w[1]), -2);
            due("way", b.way(w[0], w[1], 0), -2);
            due("way below 0", b.way(w[0], w[1], -1), -2);
            due("left", b.left(w[0], w[1]), -2);
            due("needed", b.needed(w[0], w[1]), -2);
            due("proofs", b.proofs(w[0], w[1]), -2);
            due("waives", b.waives(w[0], w[1]), -2);
        }
        due("way below 0", b.way(0, 1, -1), -3);
        due("way below 0, no roads", b.way(0, 0, Integer.MIN_VALUE), -3);
        due("way far off", b.way(0, 1, Integer.MAX_VALUE), -1);
    }

    private static void nothingChanges() {
        BackBridge b = Told.of("places 3;road 0 to 1 days 1 bridge;road 1 to 2 days 2 bridge;person at 0 born 1 papers 3;"
                + "takes:1;");
        b.soonest(0, 2);
        b.way(0, 1, 0);
        b.needed(0, 1);
        b.proofs(0, 1);
        b.waives(0, 2);
        b.ways(0, 1, 5);
        due("place", b.person(0, 0), 0);
        due("papers", b.person(0, 2), 3);
        due("been", b.person(0, 3), 3);
        due("shut", b.count(4), 0);
        due("bridges", b.count(3), 3);
        due("nothing to undo", b.count(8), 0);
        due("soonest is the same", b.soonest(0, 1), 1);
    }
}
