/** Promises 26 to 35: errands in time, whom a paper would help, loopholes, rounds, meetings. */
public final class ErrandsTest {
    private static void due(String what, long got, long want) {
        Told.due(what, got, want);
    }

    public static void main(String[] args) {
        timely();
        sparing();
        helping();
        helpingNobody();
        worstRoads();
        loopholes();
        loopholesFirstByRoads();
        rounds();
        crossing();
        meeting();
        wrongOnes();
        Told.end();
    }

    private static void timely() {
        BackBridge b = Told.of("places 3;road 0 to 1 days 4;road 1 to 2 days 3 bridge;person at 0 to 1 by 4;"
                + "person at 0 to 1 by 3;person at 1 born 2 to 2 by 9;person at 0 to 0 by 0;person at 2;"
                + "person at 0 to 2 by 999;");
        due("in time, done", b.inTime(), 1 + 4 + 8);
        b.days(1);
        due("a day later", b.inTime(), 4 + 8);
        b.days(6);
        due("too late but for one done", b.inTime(), 8);
        b.undo(2);
        b.shut(0);
        due("shut", b.inTime(), 4 + 8);
        b.shut(0);
        b.go(0, 0);
        b.days(99);
        due("done long ago", b.inTime(), 1 + 8);
        due("nothing changes", b.person(2, 0), 1);
        due("nobody", new BackBridge().inTime(), 0);
    }

    private static void sparing() {
        BackBridge b = Told.of("places 3;road 0 to 1 days 4;road 1 to 2 days 3 bridge;person at 0 to 1 by 9;"
                + "person at 0;person at 0 to 0 by 3;person at 0 to 2 by 99;person at 0 to 1 by 3;");
        due("spare", b.spare(0), 5);
        due("no errand", b.spare(1), -5);
        due("done", b.spare(2), -5);
        due("no way", b.spare(3), -1);
        due("too late", b.spare(4), -1);
        due("nobody", b.spare(5), -2);
        due("nobody", b.spare(-1), -2);
        b.days(5);
        due("none to spare", b.spare(0), 0);
        b.days(1);
        due("a day too late", b.spare(0), -1);
        b.undo(1);
        b.go(0, 0);
        due("done now", b.spare(0), -5);
    }

    private static void helping() {
        BackBridge b = Told.of("places 3;road 0 to 1 days 1 bridge;road 1 to 2 days 1 bridge;person at 0 to 0 by 0;"
                + "person at 0 papers 9 to 2 by 9;person at 0 to 2 by 9;person at 0 papers 1 to 2 by 1;"
                + "person at 0 papers 1 to 2 by 2;person at 0 papers 1 to 2 by 3;lets:1=1;takes:1;");
        due("the first whom one would help", b.helped(), 4);
        due("papers stay", b.person(4, 2), 1);
        b.forge(4);
        due("late now", b.helped(), 5);
        b.days(1);
        due("still", b.helped(), 5);
        b.days(1);
        due("too late", b.helped(), -1);
        b.undo(3);
        b.go(4, 0);
        due("again one is needed", b.helped(), 4);
        b.shut(1);
        due("not over a shut one", b.helped(), -1);
    }

    private static void helpingNobody() {
        BackBridge b = Told.of("places 2;road 0 to 1 days 1 bridge;person at 0 papers 9 to 1 by 9;person at 0;"
                + "lets:papers>9;");
        due("nine at most", b.helped(), -1);
        BackBridge c = Told.of("places 2;road 0 to 1 days 1 bridge;person at 0 papers 8 to 1 by 9;person at 0;"
                + "lets:papers>8;");
        due("the ninth", c.helped(), 0);
        BackBridge d = Told.of("places 2;road 0 to 1 days 1 bridge;person at 0 papers 3 to 1 by 9;lets:papers<4;");
        due("in time without", d.helped(), -1);
        due("nobody there", new BackBridge().helped(), -1);
    }

    private static void worstRoads() {
        BackBridge b = Told.of("places 4;road 0 to 1 days 1;road 0 to 2 days 1;road 0 to 2 days 1;road 2 to 3 days 1;"
                + "road 0 to 3 days 9;person at 0 to 1 by 5;person at 0 to 2 by 5;person at 0 to 3 by 5;"
                + "person at 2 to 3 by 2;");
        due("two would be late", b.worst(), 3);
        b.shut(3);
        due("the one that is open", b.worst(), 0);
        b.shut(1);
        due("the first of like ones", b.worst(), 0);
        b.shut(0);
        due("the other one", b.worst(), 2);
        b.shut(2);
        due("none in time", b.worst(), -1);
        BackBridge c = Told.of("places 2;road 0 to 1 days 1;road 0 to 1 days 2;person at 0 to 1 by 2;"
                + "person at 0 to 0 by 1;");
        due("a way around", c.worst(), -1);
        c.days(1);
        due("only the first is soon enough", c.worst(), 0);
        due("nobody", new BackBridge().worst(), -1);
    }

    private static void loopWay(BackBridge b, int p, int... roads) {
        for (int i = 0; i < roads.length; i++) {
            due("road " + i + " of the loophole", b.loopWay(p, i), roads[i]);
        }
        due("no more roads", b.loopWay(p, roads.length), -1);
        due("far off", b.loopWay(p, Integer.MAX_VALUE), -1);
    }

    private static void loopholes() {
        BackBridge b = Told.of("places 3;road 0 to 1 days 5 bridge;road 1 to 2 days 2;person at 0;person at 0 born 1;"
                + "person at 2;");
        due("the law holds", b.loophole(0), -1);
        loopWay(b, 0);
        due("back is not going", b.loophole(1), -1);
        BackBridge c = Told.of("places 4;road 0 to 1 days 5 bridge;road 0 to 2 days 2;road 2 to 3 days 1 bridge;"
                + "person at 0;person at 0 born 1;person at 3 born 2 papers 1;lets:been=1 or seen>1;takes:0;");
        due("seen enough", c.loophole(0), 3);
        loopWay(c, 0, 1, 2);
        due("behind the road", c.loophole(1), 3);
        loopWay(c, 1, 1, 2);
        due("from the other end", c.loophole(2), 1 + 2 + 5);
        loopWay(c, 2, 2, 1, 0);
        c.shut(2);
        due("the other bridge", c.loophole(0), 2 + 2 + 5);
        loopWay(c, 0, 1, 1, 0);
        due("nowhere to go", c.loophole(2), -1);
    }

    private static void loopholesFirstByRoads() {
        BackBridge b = Told.of("places 4;road 2 to 3 days 1 bridge;road 0 to 1 days 1;road 0 to 2 days 2;"
                + "road 1 to 3 days 2 bridge;road 0 to 3 days 3 bridge;person at 0;lets:1=1;");
        due("fewest days", b.loophole(0), 3);
        loopWay(b, 0, 1, 3);
        b.shut(3);
        loopWay(b, 0, 2, 0);
        b.shut(0);
        loopWay(b, 0, 4);
    }

    private static void rounds() {
        BackBridge b = Told.of("places 4;road 0 to 1 days 1;road 1 to 2 days 2;road 2 to 0 days 4;person at 0;");
        due("no bridge", b.round(0), 0);
        String ring = "places 4;road 0 to 1 days 1 bridge;road 1 to 2 days 2 bridge;road 2 to 3 days 4 bridge;"
                + "road 3 to 0 days 8 bridge;";
        BackBridge c = Told.of(ring + "person at 0 papers 9;person at 0 papers 4;person at 0 papers 3;lets:1=1;takes:1;");
        due("there and back but for the longest", c.round(0), 15);
        due("just enough papers", c.round(1), 15);
        due("too few papers", c.round(2), -1);
        due("nobody", c.round(3), -2);
        due("nobody", c.round(-1), -2);
        c.shut(3);
        due("one is shut", c.round(0), -1);
        BackBridge d = Told.of("places 3;road 0 to 1 days 3 bridge;road 0 to 1 days 1;person at 0;person at 1;");
        due("over and back", d.round(0), 1 + 3);
        due("from the other end", d.round(1), 1 + 3);
        BackBridge e = Told.of("places 3;road 0 to 1 days 3 bridge;road 0 to 1 days 20;person at 0 born 1;");
        due("twice over one", e.round(0), 6);
        BackBridge f = Told.of("places 3;road 0 to 1 days 3 bridge;road 1 to 2 days 1;person at 0 born 1;person at 0;");
        due("only on the way back", f.round(0), 6);
        due("never", f.round(1), -1);
    }

    private static void crossing() {
        BackBridge b = Told.of("places 4;road 0 to 1 days 1 bridge;road 1 to 2 days 2;road 2 to 3 days 4 bridge;"
                + "road 2 to 0 days 4;person at 0;person at 3;person at 0 born 3;");
        due("once it has been there", b.crosses(0), 1);
        due("none", b.crosses(1), 0);
        due("both", b.crosses(2), 5);
        b.shut(1);
        b.shut(3);
        due("none with roads shut", b.crosses(0), 0);
        due("nobody", b.crosses(3), -2);
        due("nobody", b.crosses(-1), -2);
    }

    private static void meeting() {
        BackBridge b = Told.of("places 5;road 0 to 1 days 4;road 1 to 2 days 2;road 2 to 3 days 3;person at 0;"
                + "person at 3;person at 0;person at 4;");
        due("the later of both", b.meet(0, 1), 5);
        due("where", b.meetAt(0, 1), 1);
        due("the same the other way", b.meet(1, 0), 5);
        due("at one place", b.meet(0, 2), 0);
        due("that place", b.meetAt(0, 2), 0);
        due("never", b.meet(0, 3), -1);
        due("nowhere", b.meetAt(0, 3), -1);
        b.days(7);
        b.forge(0);
        due("from now on both", b.meet(0, 1), 5);
        BackBridge c = Told.of("places 4;road 0 to 2 days 3;road 1 to 2 days 3;road 0 to 3 days 3;road 1 to 3 days 3;"
                + "road 0 to 1 days 3;person at 0;person at 1;");
        due("like ones", c.meet(0, 1), 3);
        due("the first", c.meetAt(0, 1), 0);
        BackBridge d = Told.of("places 2;road 0 to 1 days 3 bridge;person at 0;person at 1 born 0;");
        due("one is let", d.meet(0, 1), 3);
        due("at its place", d.meetAt(0, 1), 0);
    }

    private static void wrongOnes() {
        BackBridge b = Told.of("places 2;road 0 to 1 days 1 bridge;person at 0;person at 1;lets:1=1;");
        due("both one", b.meet(0, 0), -2);
        due("both one", b.meetAt(1, 1), -2);
        int[][] wrong = {{0, 2}, {2, 0}, {-1, 0}, {0, -1}, {Integer.MAX_VALUE, 1}};
        for (int[] w : wrong) {
            due("meet", b.meet(w[0], w[1]), -2);
            due("meetAt", b.meetAt(w[0], w[1]), -2);
        }
        due("loophole", b.loophole(2), -2);
        due("loophole", b.loophole(-1), -2);
        due("loopWay", b.loopWay(2, -1), -2);
        due("loopWay", b.loopWay(-1, 0), -2);
        due("loopWay below 0", b.loopWay(0, -1), -3);
        due("loophole", b.loophole(0), 1);
        due("nothing changes", b.person(0, 0), 0);
    }
}
