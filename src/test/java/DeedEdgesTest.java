/**
 * Sentences of "==== 2." and promises 5 to 17 that name a bound: the last number that is still right, the first that is
 * wrong. That refused calls change nothing, and which code is told first, is in RefusedTest.
 */
public final class DeedEdgesTest {
    /** Six people and twelve roads: as many as there can be. */
    private static final String FULL = "places 6;road 0 to 1 days 1;road 0 to 1 days 2;road 0 to 1 days 3;"
            + "road 0 to 1 days 4;road 0 to 1 days 5;road 0 to 1 days 6;road 1 to 2 days 7;road 2 to 3 days 8;"
            + "road 3 to 4 days 9;road 4 to 5 days 10;road 0 to 5 days 11;road 0 to 1 days 20;"
            + "person at 0 papers 9 to 1 by 20;person at 0;person at 0;person at 0;person at 0;"
            + "person at 0 papers 9 to 1 by 20;";

    private static void due(String what, long got, long want) {
        Told.due(what, got, want);
    }

    public static void main(String[] args) {
        personAtFirst();
        whatOfPeopleAndRoads();
        beenWhereItHasGone();
        namesFromEndToEnd();
        keptToAMillion();
        keptAtEachSign();
        atLeastNoPapers();
        justEnoughPapers();
        withoutLaws();
        lawsOnlyOfBridges();
        onTheVeryDay();
        doneAtTheBeginning();
        doneForGood();
        nineAtMostByGiving();
        oneToNineGiven();
        nineAtMostByForging();
        shutOrOpenAgain();
        oneToNinetyNineDays();
        tenAtMostAreUndone();
        eldestAreForgotten();
        ringOfTheUndone();
        callsThatDidSome();
        undoneAsAWhole();
        numbersOfDeeds();
        everyNumberOfADeed();
        goingInATray();
        givingInATray();
        firstThatCantBe();
        emptyAndFullTrays();
        judgedAsBits();
        oneToFortyTimes();
        yearsAsSingleCalls();
        calls512();
        Told.end();
    }

    // "A PERSON is at a PLACE on its DAY (0 at first), has PAPERS, has BEEN at PLACES: where it was BORN, where it is,
    // where it has gone."

    private static void personAtFirst() {
        BackBridge b = Told.of(FULL);
        for (int p = 0; p < 6; p++) {
            due("day at first", b.person(p, 1), 0);
            due("been", b.person(p, 3), 1);
        }
        b.days(9);
        Told.land(b, FULL);
        due("day of another land", b.person(5, 1), 0);
    }

    private static void whatOfPeopleAndRoads() {
        BackBridge b = Told.of(FULL);
        int[] last = {0, 0, 9, 1, 0, 1, 20, 0};
        int[] road = {0, 1, 20, 0, 0, 0};
        for (int what = 0; what < last.length; what++) {
            due("person 5, " + what, b.person(5, what), last[what]);
            due("person 6, " + what, b.person(6, what), -2);
            due("person -1, " + what, b.person(-1, what), -2);
        }
        for (int what = 0; what < road.length; what++) {
            due("road 11, " + what, b.road(11, what), road[what]);
            due("road 12, " + what, b.road(12, what), -2);
            due("road -1, " + what, b.road(-1, what), -2);
        }
        due("person, what 8", b.person(5, 8), -2);
        due("person, what -1", b.person(5, -1), -2);
        due("road, what 6", b.road(11, 6), -2);
        due("road, what -1", b.road(11, -1), -2);
    }

    private static void beenWhereItHasGone() {
        BackBridge b = Told.of(FULL);
        int[] roads = {0, 6, 7, 8, 9, 10};
        int[] been = {3, 7, 15, 31, 63, 63};
        int[] days = {1, 8, 16, 25, 35, 46};
        for (int i = 0; i < roads.length; i++) {
            due("go", b.go(4, roads[i]), (i + 1) % 6);
            due("been", b.person(4, 3), been[i]);
            due("day", b.person(4, 1), days[i]);
        }
        due("not the others", b.person(3, 3), 1);
    }

    // "In both laws: who .. born .. been .. seen .. papers .. from, to"

    private static void namesFromEndToEnd() {
        String bridges = "places 6;road 0 to 5 days 1 bridge;road 5 to 0 days 1 bridge;road 0 to 1 days 1;"
                + "road 1 to 2 days 1;road 2 to 3 days 1;road 3 to 4 days 1;road 4 to 0 days 1;";
        String people = "person at 0 born 5 papers 9;person at 5;person at 0;person at 0;person at 0;person at 5 born 0;";
        String[] names = {"who", "born", "been", "seen", "papers", "from", "to"};
        int[] first = {0, 5, 1, 2, 9, 0, 5};
        int[] last = {5, 0, 1, 2, 0, 5, 0};
        for (int i = 0; i < names.length; i++) {
            BackBridge b = Told.of(bridges + people + "takes:" + names[i] + ";");
            for (int r = 0; r < 2; r++) {
                due(names[i] + " of the first", b.takes(0, r), first[i]);
                due(names[i] + " of the last", b.takes(5, r), last[i]);
            }
            BackBridge c = Told.of(bridges + people + "lets:" + names[i] + "=" + first[i] + ";");
            due(names[i] + " in the other law", c.why(0, 0), 0);
            due(names[i] + " in the other law", c.why(5, 1), first[i] == last[i] ? 0 : 4);
        }
        BackBridge b = Told.of(bridges + people + "takes:seen*10+been;");
        due("seen where it is alone", b.takes(2, 0), 10);
        for (int i = 0; i < 5; i++) {
            b.go(2, 2 + i);
        }
        due("seen five, never been at the last", b.takes(2, 0), 50);
        BackBridge c = Told.of(bridges + people + "lets:1=1;takes:0;");
        for (int i = 0; i < 5; i++) {
            c.go(2, 2 + i);
        }
        c.go(2, 0);
        due("all six", c.person(2, 3), 63);
        BackBridge d = Told.of(bridges + people + "lets:seen=6 or seen=5 and to=5;takes:0;");
        for (int i = 0; i < 5; i++) {
            due("seen too few", d.why(2, 0), i == 0 ? 4 : 2);
            d.go(2, 2 + i);
        }
        due("seen five", d.go(2, 0), 5);
        due("seen six", d.go(2, 0), 0);
    }

    /** What a sum tells for a person without papers. */
    private static int sum(String sum) {
        return Told.of("places 2;road 0 to 1 days 1 bridge;person at 0;takes:" + sum + ";").takes(0, 0);
    }

    // "each + - * is kept from -1,000,000 to 1,000,000"

    private static void keptToAMillion() {
        due("just a million", sum("999*999+999+999+1"), 1000000);
        due("one less", sum("999*999+999+999"), 999999);
        due("one more", sum("999*999+999+999+2"), 1000000);
        due("one more by +, then less", sum("999*999+999+999+2-1"), 999999);
        due("just a million by *", sum("100*100*100"), 1000000);
        due("just a million by *, then less", sum("100*100*100-1"), 999999);
        due("more by *", sum("101*100*100"), 1000000);
        due("more by *, then less", sum("101*100*100-1"), 999999);
        due("more by -", sum("100*100*100-(0-1)"), 1000000);
        due("more by -, then less", sum("100*100*100-(0-1)-1"), 999999);
        due("just a million below", sum("0-100*100*100+100*100*100+7"), 7);
        due("one more below by -", sum("0-100*100*100-1+100*100*100+7"), 7);
        due("one less below by -", sum("0-100*100*100+1+100*100*100+7"), 8);
        due("one more below by +", sum("0-100*100*100+(0-1)+100*100*100+7"), 7);
        due("just a million below by *", sum("(0-100)*100*100+100*100*100+7"), 7);
        due("more below by *", sum("(0-101)*100*100+100*100*100+7"), 7);
        due("less below by *", sum("(0-99)*100*100+100*100*100"), 10000);
    }

    private static void keptAtEachSign() {
        due("a million times a million", sum("100*100*100*(100*100*100)"), 1000000);
        due("a million times a million, less", sum("100*100*100*(100*100*100)-1"), 999999);
        due("times a million below", sum("100*100*100*(0-100*100*100)+100*100*100+3"), 3);
        due("both below", sum("(0-100*100*100)*(0-100*100*100)-1"), 999999);
        due("a million and a million", sum("100*100*100+100*100*100-1"), 999999);
        due("a million less one below", sum("0-100*100*100-100*100*100+100*100*100+4"), 4);
        due("* ahead of +", sum("1+999*999*999-1"), 999999);
        due("from the left", sum("999*999*999-999*999*999+5"), 5);
        due("noughts", sum("0*999*999*999"), 0);
        BackBridge b = Told.of("places 2;road 0 to 1 days 1 bridge;person at 0;"
                + "lets:100*100*100+1=100*100*100 and 0-100*100*100-1=0-100*100*100 and 100*100*100>999*999;");
        due("in the other law", b.why(0, 0), 0);
    }

    // "that takes as many PAPERS as the law takes tells, 0 at least (without one: 0)"

    private static void atLeastNoPapers() {
        due("one below", sum("0-1"), 0);
        due("a million below", sum("0-100*100*100"), 0);
        due("none", sum("0"), 0);
        due("one", sum("1"), 1);
        BackBridge b = Told.of("places 2;road 0 to 1 days 1 bridge;person at 0 papers 4;lets:1=1;takes:0-3;");
        due("go", b.go(0, 0), 1);
        due("papers stay", b.person(0, 2), 4);
        due("left", b.left(0, 0), 4);
    }

    private static void justEnoughPapers() {
        for (int n = 0; n <= 9; n++) {
            String land = "places 2;road 0 to 1 days 1 bridge;person at 0 papers " + n + ";lets:1=1;takes:";
            BackBridge b = Told.of(land + n + ";");
            due("just enough", b.why(0, 0), 0);
            due("soonest", b.soonest(0, 1), 1);
            due("none left", b.left(0, 1), 0);
            due("go", b.go(0, 0), 1);
            due("none left", b.person(0, 2), 0);
            BackBridge c = Told.of(land + (n + 1) + ";");
            due("one too few", c.why(0, 0), 5);
            due("refused", c.go(0, 0), -15);
            due("no way", c.soonest(0, 1), -1);
            due("it takes so many", c.takes(0, 0), n + 1);
            if (n > 0) {
                due("one is left", Told.of(land + (n - 1) + ";").left(0, 1), 1);
            }
        }
        due("far more than there can be", Told.of("places 2;road 0 to 1 days 1 bridge;person at 0 papers 9;lets:1=1;"
                + "takes:999*999*999;").why(0, 0), 5);
    }

    private static void withoutLaws() {
        BackBridge b = Told.of("places 3;road 0 to 1 days 1 bridge;road 0 to 2 days 1;road 2 to 1 days 1;"
                + "person at 0;person at 0 born 1;");
        due("never been there", b.why(0, 0), 4);
        due("born there", b.why(1, 0), 0);
        due("takes none", b.takes(1, 0), 0);
        b.go(0, 1);
        b.go(0, 2);
        due("back to where it was", b.go(0, 0), 0);
        due("now it has been there", b.why(0, 0), 0);
        due("no papers", b.person(0, 2), 0);
    }

    private static void lawsOnlyOfBridges() {
        BackBridge b = Told.of("places 2;road 0 to 1 days 1;road 0 to 1 days 1 bridge;person at 0;lets:0=1;takes:9;");
        due("takes no papers", b.takes(0, 0), 0);
        due("is no bridge", b.go(0, 0), 1);
        due("not over the bridge", b.why(0, 1), 4);
    }

    // "An ERRAND is DONE, for good, once it is there on a DAY not above the one told (at the beginning, too)."

    private static void onTheVeryDay() {
        String land = "places 2;road 0 to 1 days 5;person at 0 to 1 by ";
        for (int by = 4; by <= 6; by++) {
            BackBridge b = Told.of(land + by + ";");
            b.go(0, 0);
            due("by " + by, b.person(0, 7), by < 5 ? 0 : 1);
            due("count by " + by, b.count(6), by < 5 ? 0 : 1);
        }
        BackBridge b = Told.of(land + "5;");
        b.days(1);
        b.go(0, 0);
        due("a day above", b.person(0, 7), 0);
        b.go(0, 0);
        b.go(0, 0);
        due("never then", b.count(6), 0);
        BackBridge c = Told.of(land + "999;");
        for (int i = 0; i < 10; i++) {
            c.days(99);
        }
        c.days(4);
        c.go(0, 0);
        due("on day 999", c.person(0, 7), 1);
        c.undo(2);
        c.days(5);
        c.go(0, 0);
        due("on day 1000", c.person(0, 1), 1000);
        due("not in time", c.person(0, 7), 0);
    }

    private static void doneAtTheBeginning() {
        BackBridge b = Told.of("places 2;person at 1 to 1 by 0;person at 0 born 1 to 1 by 9;person at 1;");
        due("by 0", b.person(0, 7), 1);
        due("only born there", b.person(1, 7), 0);
        due("no errand", b.person(2, 7), 0);
        due("errands", b.count(5), 2);
        due("those done", b.count(6), 1);
        due("none can be done by waiting", b.inTime(), 1);
    }

    private static void doneForGood() {
        BackBridge b = Told.of("places 2;road 0 to 1 days 1;person at 0 to 1 by 1;");
        b.go(0, 0);
        b.go(0, 0);
        b.days(99);
        due("done", b.person(0, 7), 1);
        b.go(0, 0);
        due("late there again", b.person(0, 7), 1);
        due("in time", b.inTime(), 1);
        due("till it is undone", b.undo(4), 0);
        due("not done", b.person(0, 7), 0);
    }

    // "To GIVE: PAPERS to another one at the same PLACE, 9 at most in all."

    private static void nineAtMostByGiving() {
        for (int has = 0; has <= 9; has++) {
            BackBridge b = Told.of("places 2;person at 0 papers 9;person at 0 papers " + has + ";person at 1;");
            if (has < 9) {
                due("up to nine", b.give(0, 1, 9 - has), 9);
                due("the giver's", b.person(0, 2), has);
                due("undo", b.undo(1), 0);
            }
            due("one too many", b.give(0, 1, 10 - has), has == 0 ? -11 : -12);
            due("not at one place", b.give(0, 2, 1), -12);
            due("as before", b.person(1, 2), has);
        }
    }

    private static void oneToNineGiven() {
        BackBridge b = Told.of("places 2;person at 0 papers 9;person at 0;person at 0 papers 3;");
        due("none", b.give(0, 1, 0), -11);
        due("ten", b.give(0, 1, 10), -11);
        due("below none", b.give(0, 1, -1), -11);
        due("least", b.give(0, 1, Integer.MIN_VALUE), -11);
        due("most", b.give(0, 1, Integer.MAX_VALUE), -11);
        due("one", b.give(0, 1, 1), 1);
        due("one more than it has", b.give(0, 1, 9), -12);
        due("all it has", b.give(0, 1, 8), 9);
        due("it has none", b.person(0, 2), 0);
        due("none to give", b.give(0, 2, 1), -12);
        due("one more than it has", b.give(2, 0, 4), -12);
        due("all", b.give(2, 0, 3), 3);
        due("together", b.count(7), 12);
        due("to itself", b.give(1, 1, 1), -11);
        due("the last", b.give(1, 2, 1), 1);
        due("behind the last", b.give(1, 3, 1), -11);
        due("ahead of the first", b.give(-1, 1, 1), -11);
    }

    // "To FORGE: one PAPER more (9 at most), its DAY is 3 more."

    private static void nineAtMostByForging() {
        BackBridge b = Told.of("places 2;person at 0;person at 0;");
        for (int n = 1; n <= 9; n++) {
            due("forge", b.forge(0), n);
            due("its day", b.person(0, 1), 3 * n);
        }
        due("a tenth", b.forge(0), -12);
        due("nine stay", b.person(0, 2), 9);
        due("its day stays", b.person(0, 1), 27);
        due("the other one's day", b.person(1, 1), 0);
        due("the last one", b.forge(1), 1);
        due("behind the last", b.forge(2), -11);
        due("ahead of the first", b.forge(-1), -11);
    }

    // "To SHUT: a road is SHUT, or open again."

    private static void shutOrOpenAgain() {
        BackBridge b = Told.of(FULL);
        due("the first", b.shut(0), 1);
        due("the last", b.shut(11), 1);
        due("both", b.count(4), 1 | 1 << 11);
        due("of the last", b.road(11, 5), 1);
        due("behind the last", b.shut(12), -11);
        due("ahead of the first", b.shut(-1), -11);
        due("open again", b.shut(11), 0);
        due("open", b.why(0, 11), 0);
        due("shut", b.why(0, 0), 3);
        for (int r = 1; r < 12; r++) {
            due("shut", b.shut(r), 1);
        }
        due("all", b.count(4), 4095);
        due("nowhere to go", b.reach(0), 1);
    }

    // Promise 13: "n DAYS (1 to 99): 0. -3."

    private static void oneToNinetyNineDays() {
        BackBridge b = Told.of(FULL);
        for (int n : new int[] {0, 100, -1, 101, Integer.MIN_VALUE, Integer.MAX_VALUE}) {
            due("days " + n, b.days(n), -3);
        }
        due("nothing to undo", b.count(8), 0);
        due("one", b.days(1), 0);
        due("ninety-nine", b.days(99), 0);
        for (int p = 0; p < 6; p++) {
            due("all of them", b.person(p, 1), 100);
        }
        due("two calls", b.count(8), 2);
    }

    // "Calls that did some can be UNDONE each as a whole, the latest first, 10 at most (eldest are forgotten)"
    // Promise 14: "n calls (1 to 10) are UNDONE: how many still can be. -3: n, more than can be."

    private static void tenAtMostAreUndone() {
        BackBridge b = Told.of(FULL);
        due("none yet", b.undo(1), -3);
        for (int n = 1; n <= 10; n++) {
            b.days(n);
            due("can be undone", b.count(8), n);
            due("none", b.undo(0), -3);
            due("below none", b.undo(-1), -3);
            due("one more than can be", b.undo(n + 1), -3);
            due("day", b.person(0, 1), n * (n + 1) / 2);
        }
        due("least", b.undo(Integer.MIN_VALUE), -3);
        due("most", b.undo(Integer.MAX_VALUE), -3);
        due("all ten", b.undo(10), 0);
        due("as at first", b.person(0, 1), 0);
        due("no more", b.undo(1), -3);
    }

    private static void eldestAreForgotten() {
        BackBridge b = Told.of(FULL);
        for (int n = 1; n <= 11; n++) {
            b.days(n);
        }
        due("ten", b.count(8), 10);
        due("eleven", b.undo(11), -3);
        due("ten", b.undo(10), 0);
        due("but for the eldest", b.person(0, 1), 1);
        due("the eldest", b.undo(1), -3);
    }

    private static void ringOfTheUndone() {
        BackBridge b = Told.of(FULL);
        int[] days = new int[100];
        int now = 0;
        for (int i = 0; i < 60; i++) {
            int n = 1 + i * 7 % 13;
            b.days(n);
            days[now + 1] = days[now] + n;
            now++;
            if (i % 7 == 6) {
                int back = 1 + i % 10;
                due("undo " + back, b.undo(back), Math.min(b.count(8), 10));
                now -= back;
                due("day", b.person(3, 1), days[now]);
                for (int k = 0; k < 4; k++) {
                    b.days(50);
                    days[now + 1] = days[now] + 50;
                    now++;
                }
            }
        }
        for (int left = b.count(8) - 1; left >= 0; left--) {
            due("one", b.undo(1), left);
            now--;
            due("day", b.person(3, 1), days[now]);
        }
    }

    private static void callsThatDidSome() {
        BackBridge b = Told.of(FULL);
        due("go", b.go(1, 0), 1);
        due("1", b.count(8), 1);
        due("give", b.give(0, 2, 1), 1);
        due("2", b.count(8), 2);
        due("forge", b.forge(3), 1);
        due("3", b.count(8), 3);
        due("shut", b.shut(5), 1);
        due("4", b.count(8), 4);
        due("days", b.days(1), 0);
        due("5", b.count(8), 5);
        Told.tray(b, 0, 1, -1, 599, -1);
        due("perform one of three", b.perform(0), 1);
        due("6", b.count(8), 6);
        due("year", b.year(yearOf(0), 1), 1);
        due("7", b.count(8), 7);
        Told.tray(b, 0, 1, 599, -1);
        due("perform none", b.perform(0), 0);
        b.numbers(1, 0, 0);
        due("perform an empty one", b.perform(1), 0);
        b.judge(0, 0);
        due("asked", b.soonest(1, 5), 12);
        b.image(0);
        due("still 7", b.count(8), 7);
        due("the shut road is undone", b.undo(4), 3);
        due("open", b.count(4), 0);
        due("all", b.undo(3), 0);
        BackBridge c = new BackBridge();
        due("a year without any", c.year(yearOf(4), 1), 0);
        due("nothing to undo", c.count(8), 0);
        due("a day of nobody", c.year(yearOf(0), 1), 1);
        due("can be undone", c.undo(1), 0);
    }

    /** A seed whose first draw is a kind. */
    private static int yearOf(int kind) {
        int seed = 1;
        while ((1103515245 * seed + 12345 >>> 16) % 5 != kind) {
            seed++;
        }
        return seed;
    }

    private static void undoneAsAWhole() {
        BackBridge b = Told.of(FULL);
        Told.tray(b, 0, 3, 0, 6, 1011, 2003, 3000, -1, 2001, 2001, 511, 3011);
        due("judged", b.judge(0, 0), 2);
        Told.tray(b, 0, 3, 0, 6, 1511, 2003, 3000, -1, 2001, 2001, 511, 3011);
        due("ten", b.perform(0), 10);
        due("errands done", b.count(6), 1);
        due("shut", b.count(4), 1 | 1 << 11);
        due("one call", b.undo(1), 0);
        BackBridge c = Told.of(FULL);
        for (int what = 0; what < 8; what++) {
            for (int p = 0; p < 6; p++) {
                due("person " + p + " " + what, b.person(p, what), c.person(p, what));
            }
        }
        due("none is shut", b.count(4), 0);
    }

    // "DEEDS in a TRAY: 0 to 599 .. 1000 to 1999 .. 2000 to 2009 .. 3000 to 3019 .. NONE: a DAY; others: 1."

    private static void numbersOfDeeds() {
        long[] can = {0, 5, 10, 11, 100, 500, 511, 1011, 1019, 1511, 1549, 2001, 2004, 3000, 3011, -1};
        for (long v : can) {
            deed(v, 0);
        }
        long[] none = {12, 99, 112, 512, 599, 600, 601, 611, 999, 1000, 1010, 1001, 1111, 1555, 1060, 1061, 1099, 1600, 1601, 1999,
            2006, 2009, 2010, 2011, 2999, 3012, 3019, 3020, 3999, 4000, -2, -3, -100, -1000, 10000,
            Integer.MAX_VALUE, Integer.MIN_VALUE, Long.MAX_VALUE, Long.MIN_VALUE, (1L << 32) - 1, 1L << 32};
        for (long v : none) {
            deed(v, 1);
        }
        long[] cant = {6, 9, 106, 509, 1121, 1051, 1501, 2000, 2005};
        for (long v : cant) {
            deed(v, 2);
        }
    }

    /** Why one deed alone can't be, by all three calls that tell it. */
    private static void deed(long v, int why) {
        BackBridge b = Told.of(FULL);
        Told.tray(b, 3, 3, v);
        due("why of deed " + v, b.judge(3, 1), why);
        due("place of deed " + v, b.judge(3, 0), why == 0 ? -1 : 0);
        due("deed " + v, b.perform(3), why == 0 ? 1 : 0);
        due("undone " + v, b.count(8), why == 0 ? 1 : 0);
    }

    /** Each number by itself, as the call that it stands for does it. */
    private static void everyNumberOfADeed() {
        for (int first = -40; first < 3100; first += 20) {
            BackBridge b = Told.of(FULL);
            BackBridge c = Told.of(FULL);
            b.numbers(0, 2, 1);
            for (int v = first; v < first + 20; v++) {
                b.write(0, 0, v);
                int answer = single(c, v);
                due("why of " + v, b.judge(0, 1), answer < 0 ? -10 - answer : 0);
                due("done of " + v, b.perform(0), answer < 0 ? 0 : 1);
            }
            for (int p = 0; p < 6; p++) {
                for (int what = 0; what < 4; what++) {
                    due("person behind " + first, b.person(p, what), c.person(p, what));
                }
            }
            due("shut behind " + first, b.count(4), c.count(4));
            due("undone behind " + first, b.count(8), c.count(8));
        }
    }

    private static int single(BackBridge b, int v) {
        if (v == -1) {
            return b.days(1);
        }
        if (v >= 0 && v <= 599) {
            return b.go(v / 100, v % 100);
        }
        if (v >= 1000 && v <= 1999) {
            return b.give((v - 1000) / 100, v / 10 % 10, v % 10);
        }
        if (v >= 2000 && v <= 2009) {
            return b.forge(v - 2000);
        }
        return v >= 3000 && v <= 3019 ? b.shut(v - 3000) : -11;
    }

    private static void goingInATray() {
        BackBridge b = Told.of(FULL);
        for (int p = 0; p < 6; p++) {
            Told.tray(b, 0, 2, 100 * p + 10, 100 * p + 9);
            due("both", b.perform(0), 2);
            due("place", b.person(p, 0), 4);
            due("day", b.person(p, 1), 21);
        }
    }

    private static void givingInATray() {
        for (int p = 0; p < 6; p++) {
            for (int q = 0; q < 6; q++) {
                for (int n = 0; n < 10; n++) {
                    BackBridge b = Told.of(FULL);
                    BackBridge c = Told.of(FULL);
                    Told.tray(b, 0, 2, 1000 + 100 * p + 10 * q + n);
                    int got = c.give(p, q, n);
                    due("why", b.judge(0, 1), got < 0 ? -got - 10 : 0);
                    due("done", b.perform(0), got < 0 ? 0 : 1);
                    due("papers of one", b.person(p, 2), c.person(p, 2));
                    due("papers of the other", b.person(q, 2), c.person(q, 2));
                }
            }
        }
    }

    // Promise 15: "what 0: the first place that can't be (NONE), 1: why (0), 2: ERRANDS DONE then, as bits, 3: PAPERS of
    // all together"

    private static void firstThatCantBe() {
        for (int at = 0; at < 40; at++) {
            BackBridge b = Told.of(FULL);
            b.numbers(0, 3, 40);
            for (int i = 0; i < 40; i++) {
                b.write(0, i, i == at ? 6 : i > at ? 599 : -1);
            }
            due("place", b.judge(0, 0), at);
            due("why", b.judge(0, 1), 2);
            due("how many", b.perform(0), at);
            due("days", b.person(0, 1), at);
            due("undone", b.count(8), at == 0 ? 0 : 1);
        }
    }

    private static void emptyAndFullTrays() {
        BackBridge b = Told.of(FULL);
        int[] empty = {-1, 0, 0, 18};
        b.numbers(0, 0, 0);
        b.numbers(1, 0, 40);
        for (int i = 0; i < 40; i++) {
            b.write(1, i, -1);
        }
        for (int what = 0; what < 4; what++) {
            due("an empty tray, " + what, b.judge(0, what), empty[what]);
            due("a full one of days, " + what, b.judge(1, what), empty[what]);
        }
        due("nothing is done", b.person(0, 1), 0);
        due("none", b.perform(0), 0);
        due("forty", b.perform(1), 40);
        due("days", b.person(0, 1), 40);
        Told.tray(b, 2, 1, 599);
        due("one that can't be", b.judge(2, 1), 1);
        due("an empty one behind it", b.judge(0, 1), 0);
        due("and its place", b.judge(0, 0), -1);
        due("one that can't be", b.perform(2), 0);
        due("an empty one behind it", b.judge(0, 1), 0);
        due("what 4", b.judge(0, 4), -2);
        due("what -1", b.judge(0, -1), -2);
        due("a missing one", b.judge(3, 0), -6);
        due("the last one is missing", b.perform(3), -6);
        due("tray 4", b.judge(4, 0), -2);
        due("tray 4", b.perform(4), -2);
        due("tray -1", b.judge(-1, 0), -2);
        due("tray -1", b.perform(-1), -2);
    }

    private static void judgedAsBits() {
        BackBridge b = Told.of(FULL);
        Told.tray(b, 0, 2, 511, 0, 2001, 6);
        due("errands of the first and the last", b.judge(0, 2), 1 | 1 << 5);
        due("papers", b.judge(0, 3), 19);
        due("not done yet", b.count(6), 0);
        Told.tray(b, 0, 2, -1, 511, 0);
        due("the last is late by a day", b.judge(0, 2), 1);
        b.go(0, 0);
        due("done before", b.judge(0, 2), 1);
        Told.tray(b, 0, 2, 3010, 110);
        due("a road that is shut by the first", b.judge(0, 1), 3);
        Told.tray(b, 0, 2, 1000, 0);
        due("none can be", b.judge(0, 0), 0);
    }

    // "A YEAR by a SEED .. so many times (1 to 40)"

    private static void oneToFortyTimes() {
        BackBridge b = Told.of(FULL);
        for (int times : new int[] {0, 41, -1, 42, Integer.MIN_VALUE, Integer.MAX_VALUE}) {
            due("times " + times, b.year(1, times), -3);
        }
        due("nothing to undo", b.count(8), 0);
        due("nothing is shut", b.count(4), 0);
        due("once", b.year(yearOf(0), 1), 1);
        due("a day", b.person(5, 1), 1);
        due("one call", b.count(8), 1);
    }

    /** Each of a year's deeds called by itself, on another object, with draws by their own words. */
    private static void yearsAsSingleCalls() {
        int[] seeds = {0, 1, -1, 7, 12345, Integer.MAX_VALUE, Integer.MIN_VALUE, 65535, 65536, -65536, 99991};
        for (int times : new int[] {1, 2, 39, 40}) {
            for (int seed : seeds) {
                BackBridge b = Told.of(FULL);
                BackBridge c = Told.of(FULL);
                due("year of " + seed + ", " + times, b.year(seed, times), singly(c, seed, times));
                for (int p = 0; p < 6; p++) {
                    for (int what = 0; what < 8; what++) {
                        due("person behind " + seed, b.person(p, what), c.person(p, what));
                    }
                }
                due("shut behind " + seed, b.count(4), c.count(4));
            }
        }
    }

    private static int singly(BackBridge b, int seed, int times) {
        long x = seed & 0xffffffffL;
        int done = 0;
        for (int i = 0; i < times; i++) {
            long[] draws = new long[3];
            long y = x;
            for (int k = 0; k < 3; k++) {
                y = (1103515245L * y + 12345) & 0xffffffffL;
                draws[k] = y;
            }
            int kind = (int) (draws[0] >> 16) % 5;
            int second = (int) (draws[1] >> 16);
            int answer;
            if (kind == 0) {
                answer = b.days(1);
            } else if (kind == 3) {
                answer = b.forge(second % 6);
            } else if (kind == 4) {
                answer = b.shut(second % 12);
            } else {
                answer = b.go(second % 6, (int) (draws[2] >> 16) % 12);
            }
            x = draws[kind == 0 ? 0 : kind < 3 ? 2 : 1];
            done += answer >= 0 ? 1 : 0;
        }
        return done;
    }

    // "An object is used for at most 512 calls after it has been made"

    private static void calls512() {
        BackBridge b = new BackBridge();
        Told.feed(b, FULL);
        due("lines", b.land(FULL.length()), 19);
        int calls = (FULL.length() + 19) / 20 + 1;
        for (int i = calls; i < 511; i++) {
            due("call " + i, b.days(1), 0);
        }
        due("call 512", b.person(5, 1), 511 - calls);
    }
}
