/** Promises 9 to 17: to go, to give, to forge, to shut, days, undoing, deeds judged and done, years. */
public final class DeedsTest {
    private static final String LAND = "places 4;road 0 to 1 days 2 bridge;road 1 to 2 days 3;road 2 to 0 days 9;"
            + "road 2 to 3 days 1 bridge;person at 0 papers 2 born 1 to 2 by 5;person at 0 papers 8;"
            + "person at 3 papers 1 to 0 by 9;takes:1;";

    private static void due(String what, long got, long want) {
        Told.due(what, got, want);
    }

    public static void main(String[] args) {
        going();
        errandsDone();
        giving();
        forging();
        shutting();
        passing();
        undoing();
        undoingMany();
        judging();
        deedNumbers();
        performing();
        years();
        yearsByHand();
        refusedChangeNothing();
        Told.end();
    }

    private static void going() {
        BackBridge b = Told.of(LAND);
        due("go back over the bridge", b.go(0, 0), 1);
        due("a paper less", b.person(0, 2), 1);
        due("days", b.person(0, 1), 2);
        due("go over it again", b.go(0, 0), 0);
        due("no paper", b.person(0, 2), 0);
        due("fewer papers", b.go(0, 0), -15);
        due("not let", b.go(1, 0), -14);
        due("elsewhere", b.go(1, 1), -12);
        due("nobody", b.go(3, 0), -11);
        due("nobody", b.go(-1, 0), -11);
        due("no road", b.go(0, 4), -11);
        due("no road", b.go(0, -1), -11);
        due("a road backwards", b.go(1, 2), 2);
        due("day of the other one", b.person(0, 1), 4);
        due("day", b.person(1, 1), 9);
        due("go on", b.go(1, 1), 1);
        due("now it is back", b.go(1, 0), 0);
        due("papers of a bridge", b.person(1, 2), 7);
        b.shut(0);
        due("shut", b.go(1, 0), -13);
        due("undone by", b.count(8), 6);
    }

    private static void errandsDone() {
        BackBridge b = Told.of(LAND);
        due("not done", b.person(0, 7), 0);
        b.go(0, 0);
        b.go(0, 1);
        due("done on the very day", b.person(0, 7), 1);
        due("day", b.person(0, 1), 5);
        b.go(0, 1);
        due("done for good", b.person(0, 7), 1);
        due("errands", b.count(5), 2);
        due("those done", b.count(6), 1);
        BackBridge c = Told.of(LAND);
        c.days(1);
        c.go(0, 0);
        c.go(0, 1);
        due("a day late", c.person(0, 7), 0);
        BackBridge d = Told.of("places 2;road 0 to 1 days 1;person at 0 to 0 by 0;person at 0 to 1 by 0;");
        due("done at the beginning", d.person(0, 7), 1);
        due("not there", d.person(1, 7), 0);
        due("those done", d.count(6), 1);
    }

    private static void giving() {
        BackBridge b = Told.of(LAND);
        due("give one", b.give(0, 1, 1), 9);
        due("the giver's", b.person(0, 2), 1);
        due("more than 9", b.give(0, 1, 1), -12);
        due("give back", b.give(1, 0, 8), 9);
        due("the giver's", b.person(1, 2), 1);
        due("fewer than told", b.give(1, 0, 2), -12);
        due("not at one place", b.give(0, 2, 1), -12);
        due("to oneself", b.give(0, 0, 1), -11);
        due("nobody", b.give(0, 3, 1), -11);
        due("nobody", b.give(-1, 0, 1), -11);
        due("none", b.give(0, 1, 0), -11);
        due("ten", b.give(0, 1, 10), -11);
        due("below none", b.give(0, 1, -1), -11);
        due("days stay", b.person(0, 1), 0);
        due("together", b.count(7), 11);
        due("undo", b.undo(2), 0);
        due("as before", b.person(0, 2), 2);
        BackBridge c = Told.of("places 2;person at 0 papers 9;person at 0;");
        due("all nine", c.give(0, 1, 9), 9);
        due("none left", c.person(0, 2), 0);
    }

    private static void forging() {
        BackBridge b = Told.of(LAND);
        due("forge", b.forge(1), 9);
        due("its day", b.person(1, 1), 3);
        due("not of others", b.person(0, 1), 0);
        due("nine at most", b.forge(1), -12);
        due("day stays", b.person(1, 1), 3);
        due("nobody", b.forge(3), -11);
        due("nobody", b.forge(-1), -11);
        due("undone by", b.count(8), 1);
    }

    private static void shutting() {
        BackBridge b = Told.of(LAND);
        due("shut", b.shut(1), 1);
        due("shut another", b.shut(3), 1);
        due("as bits", b.count(4), 10);
        due("open", b.shut(1), 0);
        due("as bits", b.count(4), 8);
        due("no road", b.shut(4), -11);
        due("no road", b.shut(-1), -11);
        due("undo", b.undo(1), 2);
        due("shut again", b.count(4), 10);
    }

    private static void passing() {
        BackBridge b = Told.of(LAND);
        due("days", b.days(99), 0);
        due("none", b.days(0), -3);
        due("too many", b.days(100), -3);
        due("below none", b.days(-1), -3);
        due("day of the first", b.person(0, 1), 99);
        due("day of the last", b.person(2, 1), 99);
        due("one", b.days(1), 0);
        due("day", b.person(1, 1), 100);
        due("undo", b.undo(2), 0);
        due("day", b.person(1, 1), 0);
    }

    private static void undoing() {
        BackBridge b = Told.of(LAND);
        due("nothing to undo", b.undo(1), -3);
        b.go(0, 0);
        b.go(0, 1);
        b.forge(0);
        due("errand done", b.count(6), 1);
        due("none", b.undo(0), -3);
        due("below none", b.undo(-1), -3);
        due("more than can be", b.undo(4), -3);
        due("eleven", b.undo(11), -3);
        due("all stays", b.person(0, 0), 2);
        due("undo two", b.undo(2), 1);
        due("place", b.person(0, 0), 1);
        due("day", b.person(0, 1), 2);
        due("papers", b.person(0, 2), 1);
        due("been", b.person(0, 3), 3);
        due("errand not done", b.count(6), 0);
        due("go from there", b.go(0, 1), 2);
        due("undone by", b.count(8), 2);
        due("undo both", b.undo(2), 0);
        due("at the beginning", b.person(0, 0), 0);
        due("day", b.person(0, 1), 0);
    }

    private static void undoingMany() {
        BackBridge b = Told.of(LAND);
        for (int i = 1; i <= 13; i++) {
            b.days(i);
            due("can be undone", b.count(8), Math.min(i, 10));
        }
        due("eleven", b.undo(11), -3);
        due("three", b.undo(3), 7);
        due("day", b.person(0, 1), 55);
        b.shut(0);
        due("eight", b.count(8), 8);
        due("eight undone", b.undo(8), 0);
        due("eldest are forgotten", b.person(0, 1), 6);
        due("no more", b.undo(1), -3);
        due("ten at once", b.count(8), 0);
        for (int i = 0; i < 10; i++) {
            b.days(2);
        }
        due("ten", b.undo(10), 0);
        due("day", b.person(0, 1), 6);
    }

    private static void judging() {
        BackBridge b = Told.of(LAND);
        due("no tray", b.judge(4, 0), -2);
        due("no tray", b.judge(-1, 0), -2);
        due("no what, missing", b.judge(0, 4), -2);
        due("no what", b.judge(0, -1), -2);
        due("missing", b.judge(0, 3), -6);
        Told.tray(b, 0, 1, 0, 1, -1, 2001, 1000, 3003);
        due("first that can't be", b.judge(0, 0), 4);
        due("why", b.judge(0, 1), 1);
        due("errands", b.judge(0, 2), 1);
        due("papers", b.judge(0, 3), 11);
        due("nothing is done", b.person(0, 0), 0);
        due("nothing to undo", b.count(8), 0);
        Told.tray(b, 1, 1, 0, 1, 3);
        due("the law", b.judge(1, 1), 4);
        due("its place", b.judge(1, 0), 2);
        due("papers before it", b.judge(1, 3), 10);
        Told.tray(b, 2, 3, 1011, 2000, 2000, 3001);
        due("all can be", b.judge(2, 0), -1);
        due("no why", b.judge(2, 1), 0);
        due("no errands", b.judge(2, 2), 0);
        due("papers", b.judge(2, 3), 13);
        due("numbers", b.numbers(3, 0, 0), 0);
        due("an empty tray", b.judge(3, 0), -1);
        due("its why", b.judge(3, 1), 0);
        due("its papers", b.judge(3, 3), 11);
        Told.tray(b, 3, 1, 3002, 102);
        due("shut before it", b.judge(3, 1), 3);
        due("nothing is shut", b.count(4), 0);
    }

    /** Why one deed alone can't be. */
    private static void deed(long v, int why) {
        BackBridge b = Told.of(LAND);
        Told.tray(b, 0, 3, v);
        due("why of deed " + v, b.judge(0, 1), why);
        due("place of deed " + v, b.judge(0, 0), why == 0 ? -1 : 0);
        due("deed " + v, b.perform(0), why == 0 ? 1 : 0);
    }

    private static void deedNumbers() {
        deed(0, 0);
        deed(1, 2);
        deed(4, 1);
        deed(99, 1);
        deed(100, 4);
        deed(102, 0);
        deed(300, 1);
        deed(599, 1);
        deed(600, 1);
        deed(999, 1);
        deed(1011, 0);
        deed(1012, 2);
        deed(1010, 1);
        deed(1001, 1);
        deed(1021, 2);
        deed(1031, 1);
        deed(1107, 0);
        deed(1108, 2);
        deed(1301, 1);
        deed(1999, 1);
        deed(2000, 0);
        deed(2002, 0);
        deed(2003, 1);
        deed(2009, 1);
        deed(2010, 1);
        deed(2999, 1);
        deed(3000, 0);
        deed(3003, 0);
        deed(3004, 1);
        deed(3019, 1);
        deed(3020, 1);
        deed(-1, 0);
        deed(-2, 1);
        deed(Long.MAX_VALUE, 1);
        deed(Long.MIN_VALUE, 1);
        deed(1L << 32, 1);
        deed((1L << 32) - 1, 1);
    }

    private static void performing() {
        BackBridge b = Told.of(LAND);
        due("no tray", b.perform(4), -2);
        due("no tray", b.perform(-1), -2);
        due("missing", b.perform(0), -6);
        Told.tray(b, 0, 1, 0, -1, 1, 3, 2001);
        due("three are done", b.perform(0), 3);
        due("place", b.person(0, 0), 2);
        due("day", b.person(0, 1), 6);
        due("late", b.person(0, 7), 0);
        due("not the last", b.person(1, 2), 8);
        due("one call", b.count(8), 1);
        due("none of them", b.perform(0), 0);
        due("no call", b.count(8), 1);
        due("undone as a whole", b.undo(1), 0);
        due("place", b.person(0, 0), 0);
        due("papers", b.person(0, 2), 2);
        due("papers of another", b.person(1, 2), 8);
        due("day of another", b.person(1, 1), 0);
        b.numbers(1, 3, 40);
        for (int i = 0; i < 40; i++) {
            b.write(1, i, i % 2 == 0 ? -1 : 3000);
        }
        due("forty", b.perform(1), 40);
        due("days", b.person(2, 1), 20);
        due("open again", b.count(4), 0);
        b.numbers(2, 0, 0);
        due("an empty tray", b.perform(2), 0);
        due("no call", b.count(8), 1);
        Told.tray(b, 2, 1, 2000, 9999);
        due("one alone", b.perform(2), 1);
        due("a call", b.count(8), 2);
        due("undone", b.undo(1), 1);
        due("papers", b.person(0, 2), 2);
        due("day", b.person(0, 1), 20);
    }

    private static void years() {
        BackBridge b = Told.of(LAND);
        due("no times", b.year(1, 0), -3);
        due("too many times", b.year(1, 41), -3);
        due("below none", b.year(1, -1), -3);
        due("nothing to undo", b.count(8), 0);
        int done = b.year(5, 40);
        due("some were", done > 0 && done <= 40 ? 1 : 0, 1);
        due("one call", b.count(8), 1);
        int day = b.person(1, 1);
        due("undone as a whole", b.undo(1), 0);
        due("day", b.person(1, 1), 0);
        due("papers", b.person(1, 2), 8);
        due("the same again", b.year(5, 40), done);
        due("the same day", b.person(1, 1), day);
        BackBridge c = new BackBridge();
        due("without people", c.year(5, 40), daysIn(5, 40));
    }

    /** Without people and roads only days can be. */
    private static int daysIn(int seed, int times) {
        int x = seed;
        int days = 0;
        for (int i = 0; i < times; i++) {
            x = 1103515245 * x + 12345;
            int kind = (x >>> 16) % 5;
            days += kind == 0 ? 1 : 0;
            int more = kind == 0 ? 0 : kind < 3 ? 2 : 1;
            for (int k = 0; k < more; k++) {
                x = 1103515245 * x + 12345;
            }
        }
        return days;
    }

    /** A year of one deed each, the draws being taken by hand. */
    private static void yearsByHand() {
        int[] kinds = new int[5];
        for (int seed = -150; seed < 150; seed++) {
            int first = 1103515245 * seed + 12345;
            int second = 1103515245 * first + 12345;
            int third = 1103515245 * second + 12345;
            int kind = (first >>> 16) % 5;
            int p = (second >>> 16) % 6;
            int r = (kind == 4 ? second >>> 16 : third >>> 16) % 12;
            kinds[kind]++;
            BackBridge b = Told.of(LAND);
            BackBridge c = Told.of(LAND);
            int want;
            if (kind == 0) {
                want = c.days(1);
            } else if (kind < 3) {
                want = c.go(p, r);
            } else if (kind == 3) {
                want = c.forge(p);
            } else {
                want = c.shut(r);
            }
            due("year of seed " + seed, b.year(seed, 1), want >= 0 ? 1 : 0);
            due("undone by", b.count(8), c.count(8));
            due("shut", b.count(4), c.count(4));
            for (int what = 0; what < 24; what++) {
                due("person", b.person(what / 8, what % 8), c.person(what / 8, what % 8));
            }
        }
        for (int kind = 0; kind < 5; kind++) {
            due("kind " + kind + " was drawn", kinds[kind] > 0 ? 1 : 0, 1);
        }
    }

    private static void refusedChangeNothing() {
        BackBridge b = Told.of(LAND);
        b.go(0, 3);
        b.go(0, 1);
        b.give(0, 2, 1);
        b.give(0, 1, 9);
        b.forge(7);
        b.shut(7);
        b.days(0);
        b.undo(1);
        b.perform(0);
        b.year(1, 0);
        BackBridge c = Told.of(LAND);
        for (int what = 0; what < 24; what++) {
            due("person", b.person(what / 8, what % 8), c.person(what / 8, what % 8));
        }
        due("undone by", b.count(8), 0);
        due("shut", b.count(4), 0);
    }
}
