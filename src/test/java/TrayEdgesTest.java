/** Promises 36 to 38 and 41 to 46, "ANSWERS", "TRAYS", "IMAGES": the last number that is right, the first that is wrong. */
public final class TrayEdgesTest {
    private static final int[] FAR = {Integer.MIN_VALUE, Integer.MAX_VALUE};

    private static void due(String what, long got, long want) {
        Told.due(what, got, want);
    }

    public static void main(String[] args) {
        traysZeroToThree();
        sortsZeroToThree();
        zeroToFortyNumbers();
        inPlaceOfAnother();
        allAreNought();
        cutToItsSort();
        numbersOfATray();
        oneToTwelveAnswers();
        formOfAnswers();
        roadsOfAnswers();
        endsOfAnswers();
        fewestAndMostSets();
        setsOfEachLand();
        papersAsNow();
        askTheFirst();
        askWithoutSets();
        listsAsFarAsItHasPlaces();
        listsNoRoads();
        listsCutToItsSort();
        imagesZeroAndOne();
        noneAtFirst();
        imageInPlaceOfAnother();
        nothingUndoneBehind();
        allThatIsInAnImage();
        countsFromNoneToFull();
        Told.end();
    }

    // "TRAYS 0 to 3 are MISSING at first, or have 0 to 40 numbers of 8 bits (sort 0), 16 (1), 32 (2), 64 (3)."

    private static void traysZeroToThree() {
        BackBridge b = Told.of("places 2;road 0 to 1 days 1 bridge;person at 0;");
        for (int tray = 0; tray < 4; tray++) {
            due("missing at first", b.judge(tray, 0), -6);
            due("missing at first", b.perform(tray), -6);
            due("missing at first", b.write(tray, 0, 1), -6);
            due("missing at first", b.shoes(tray, 0), -6);
            due("missing at first", b.sure(tray, 0), -6);
            due("missing at first", b.ask(tray, 0), -6);
            due("missing at first", b.lists(tray, 0, 0), -6);
        }
        due("the last", b.numbers(3, 0, 1), 0);
        due("the first", b.numbers(0, 0, 1), 0);
        due("of its own", b.write(0, 0, 7), 7);
        due("of its own", b.write(3, 0, 8), 8);
        due("still missing", b.write(1, 0, 8), -6);
        due("still missing", b.write(2, 0, 8), -6);
        for (int tray : new int[] {-1, 4, 5, -2, FAR[0], FAR[1]}) {
            due("numbers of tray " + tray, b.numbers(tray, 0, 1), -2);
            due("write into tray " + tray, b.write(tray, 0, 1), -2);
            due("judge tray " + tray, b.judge(tray, 0), -2);
            due("perform tray " + tray, b.perform(tray), -2);
            due("shoes of tray " + tray, b.shoes(tray, 0), -2);
            due("sure of tray " + tray, b.sure(tray, 0), -2);
            due("ask of tray " + tray, b.ask(tray, 0), -2);
            due("lists into tray " + tray, b.lists(tray, 0, 0), -2);
        }
    }

    private static void sortsZeroToThree() {
        BackBridge b = new BackBridge();
        for (int sort : new int[] {-1, 4, FAR[0], FAR[1]}) {
            due("sort " + sort, b.numbers(0, sort, 1), -2);
            due("the tray is missing still", b.write(0, 0, 1), -6);
        }
        long v = 0x0123456789abcdefL;
        long[] cut = {(byte) 0xef, (short) 0xcdef, 0x89abcdef, v};
        for (int sort = 0; sort < 4; sort++) {
            due("sort " + sort, b.numbers(sort, sort, 1), 0);
            due("of sort " + sort, b.write(sort, 0, v), cut[sort]);
        }
    }

    // Promise 41: "-3, and the TRAY stays: n is below 0 or above 40"

    private static void zeroToFortyNumbers() {
        BackBridge b = new BackBridge();
        due("three", b.numbers(1, 1, 3), 0);
        for (int n : new int[] {-1, 41, 42, FAR[0], FAR[1]}) {
            due("n " + n, b.numbers(1, 3, n), -3);
            due("its sort stays", b.write(1, 2, 1L << 15), -(1L << 15));
            due("its numbers stay", b.write(1, 3, 0), -7);
            due("a missing one", b.numbers(2, 3, n), -3);
            due("stays missing", b.write(2, 0, 0), -6);
        }
        due("none", b.numbers(1, 0, 0), 0);
        due("no number", b.write(1, 0, 0), -7);
        due("forty", b.numbers(1, 3, 40), 0);
        due("the last", b.write(1, 39, 5), 5);
        due("behind it", b.write(1, 40, 5), -7);
    }

    // Promise 41: "A TRAY has n numbers of a sort, all 0 (in place of another one)"

    private static void inPlaceOfAnother() {
        BackBridge b = new BackBridge();
        b.numbers(0, 0, 40);
        b.numbers(1, 0, 2);
        due("fewer, of another sort", b.numbers(0, 3, 1), 0);
        due("the only one", b.write(0, 0, Long.MAX_VALUE), Long.MAX_VALUE);
        due("no second", b.write(0, 1, 0), -7);
        due("more, of a lesser sort", b.numbers(0, 0, 2), 0);
        due("cut", b.write(0, 1, 256), 0);
        due("the other tray", b.write(1, 1, 3), 3);
    }

    private static void allAreNought() {
        BackBridge b = Told.of("places 2;road 0 to 1 days 1;person at 0;");
        b.numbers(0, 2, 40);
        for (int i = 0; i < 40; i++) {
            b.write(0, i, -1);
        }
        due("days", b.judge(0, 0), -1);
        due("again", b.numbers(0, 2, 39), 0);
        due("none is left of the other", b.perform(0), 39);
        due("it went", b.person(0, 1), 39);
        due("to and fro", b.person(0, 0), 1);
        due("more again", b.numbers(0, 2, 40), 0);
        due("the fortieth, too", b.perform(0), 40);
        due("it went", b.person(0, 1), 79);
    }

    // Promise 42: "Number i of a TRAY is v, cut to its sort: as it is there."

    private static void cutToItsSort() {
        BackBridge b = new BackBridge();
        for (int sort = 0; sort < 4; sort++) {
            b.numbers(sort, sort, 1);
            int bits = 8 << sort;
            long top = 1L << bits - 1;
            due("greatest", b.write(sort, 0, top - 1), top - 1);
            due("one more", b.write(sort, 0, top), -top);
            due("least", b.write(sort, 0, -top), -top);
            due("one less", b.write(sort, 0, -top - 1), top - 1);
            due("nought", b.write(sort, 0, 0), 0);
            due("one below nought", b.write(sort, 0, -1), -1);
            if (sort < 3) {
                due("all bits", b.write(sort, 0, 2 * top - 1), -1);
                due("one more bit", b.write(sort, 0, 2 * top), 0);
                due("one more bit, and one", b.write(sort, 0, 2 * top + 1), 1);
            }
        }
    }

    // "-7 it has no such number"

    private static void numbersOfATray() {
        BackBridge b = new BackBridge();
        for (int n = 0; n <= 40; n++) {
            b.numbers(2, 2, n);
            if (n > 0) {
                due("the first", b.write(2, 0, n), n);
                due("the last", b.write(2, n - 1, n), n);
            }
            due("behind the last", b.write(2, n, n), -7);
            due("ahead of the first", b.write(2, -1, n), -7);
        }
        due("far off", b.write(2, FAR[0], 1), -7);
        due("far off", b.write(2, FAR[1], 1), -7);
    }

    private static void all(BackBridge b, int tray, int p, int want) {
        due("shoes", b.shoes(tray, p), want);
        due("sure", b.sure(tray, p), want);
        due("ask", b.ask(tray, p), want);
    }

    // "ANSWERS in a TRAY (1 to 12 numbers)"; promise 36: "-4: not 1 to 12 numbers"

    private static void oneToTwelveAnswers() {
        BackBridge b = Told.of("places 6;road 0 to 1 days 1 bridge;person at 0;");
        for (int n = 0; n <= 40; n++) {
            b.numbers(0, 2, n);
            if (n < 1 || n > 12) {
                all(b, 0, 0, -4);
            } else {
                due("sets by " + n, b.shoes(0, 0), 16);
                due("sure by " + n, b.sure(0, 0), 1);
                due("ask by " + n, b.ask(0, 0), 0);
                b.write(0, n - 1, 1);
                due("the last of " + n, b.shoes(0, 0), n == 1 ? 16 : 0);
            }
        }
    }

    // "100 times a road, 10 times the end it would go to (0 .., 1 ..), 1 if it was let over there, else 0"; promise 36:
    // "-3: one is none such, its road no BRIDGE"

    private static void formOfAnswers() {
        String land = "places 2;" + Told.times(11, "road 0 to 1 days 1;") + "road 0 to 1 days 1 bridge;person at 0;lets:1=1;";
        BackBridge b = Told.of(land);
        for (int v = -250; v <= 1300; v++) {
            b = v % 100 == 0 ? Told.of(land) : b;
            Told.tray(b, 0, 3, v);
            boolean form = v == 1100 || v == 1101 || v == 1110 || v == 1111;
            due("answer " + v, b.shoes(0, 0), form ? v % 2 == 1 ? 2 : 0 : -3);
        }
        for (long v : new long[] {Long.MIN_VALUE, Long.MAX_VALUE, (1L << 32) + 1100, -1100, 11001, 1L << 63 | 1100}) {
            Told.tray(b, 0, 3, v);
            all(b, 0, 0, -3);
        }
        b = Told.of(land);
        for (int r = 12; r < 90; r++) {
            Told.tray(b, 0, 3, 100 * r + 1);
            due("answer of road " + r, b.shoes(0, 0), -3);
        }
        Told.tray(b, 0, 3, (1L << 32) * 100 + 1100);
        all(b, 0, 0, -3);
        Told.tray(b, 0, 3, 1101, 1101, 1099);
        all(b, 0, 0, -3);
        Told.tray(b, 0, 3, 1102, 1101, 1101);
        all(b, 0, 0, -3);
    }

    private static void roadsOfAnswers() {
        BackBridge b = Told.of("places 2;road 0 to 1 days 1 bridge;road 0 to 1 days 1;road 0 to 1 days 1 bridge;person at 0;");
        for (int r = 0; r < 12; r++) {
            Told.tray(b, 0, 3, 100 * r + 11);
            due("road " + r, b.shoes(0, 0), r == 0 || r == 2 ? 2 : -3);
        }
        b.shut(2);
        Told.tray(b, 0, 3, 211);
        due("a shut one", b.shoes(0, 0), 2);
        b.shut(2);
        b.undo(2);
        due("sets", b.shoes(0, 0), 2);
        Told.land(b, "places 2;road 0 to 1 days 1;road 0 to 1 days 1 bridge;person at 0;");
        all(b, 0, 0, -3);
        BackBridge c = Told.of("places 2;person at 0;");
        Told.tray(c, 0, 3, 0);
        all(c, 0, 0, -3);
    }

    private static void endsOfAnswers() {
        BackBridge b = Told.of("places 4;road 2 to 3 days 1 bridge;person at 0;lets:from=2;");
        Told.tray(b, 0, 3, 1);
        due("end 0 is the second one told", b.shoes(0, 0), 8);
        Told.tray(b, 0, 3, 11);
        due("end 1 is the first one told", b.shoes(0, 0), 0);
        Told.tray(b, 0, 3, 10);
        due("not let there", b.shoes(0, 0), 8);
        Told.tray(b, 0, 3, 0);
        due("it was let", b.shoes(0, 0), 0);
        BackBridge c = Told.of("places 4;road 2 to 3 days 1 bridge;person at 0;");
        Told.tray(c, 0, 3, 1);
        due("been at 3", c.sure(0, 0), 9);
        Told.tray(c, 0, 3, 11);
        due("been at 2", c.sure(0, 0), 5);
        Told.tray(c, 0, 3, 11, 1);
        due("been at both", c.sure(0, 0), 13);
        due("two sets", c.shoes(0, 0), 2);
    }

    private static void fewestAndMostSets() {
        BackBridge b = Told.of("places 6;road 0 to 1 days 1 bridge;person at 5;person at 5 born 4;person at 0 born 5;"
                + "lets:1=1;");
        Told.tray(b, 0, 2, 1);
        due("most", b.shoes(0, 0), 32);
        due("sure where it is", b.sure(0, 0), 32);
        due("with another place sure", b.shoes(0, 1), 16);
        due("both sure", b.sure(0, 1), 48);
        due("both sure", b.sure(0, 2), 33);
        Told.tray(b, 0, 2, 0);
        due("none", b.shoes(0, 0), 0);
        due("sure without any", b.sure(0, 0), 0);
        due("ask without any", b.ask(0, 0), -1);
        BackBridge c = Told.of("places 6;road 0 to 1 days 1 bridge;person at 5;lets:seen=6;");
        Told.tray(c, 0, 2, 1);
        due("one", c.shoes(0, 0), 1);
        due("all places", c.sure(0, 0), 63);
        due("ask about one", c.ask(0, 0), 0);
        Told.tray(c, 0, 2, 0);
        due("all but one", c.shoes(0, 0), 31);
        BackBridge d = Told.of("places 6;road 0 to 1 days 1 bridge;person at 5;lets:seen=1;");
        Told.tray(d, 0, 2, 1);
        due("but where it is", d.sure(0, 0), 32);
        due("one", d.shoes(0, 0), 1);
    }

    private static void setsOfEachLand() {
        for (int places = 2; places <= 6; places++) {
            BackBridge b = Told.of("places " + places + ";road 0 to 1 days 1 bridge;person at 0;person at 0 born 1;lets:1=1;");
            Told.tray(b, 0, 2, 1);
            due("sets", b.shoes(0, 0), 1 << places - 1);
            due("sets of one born elsewhere", b.shoes(0, 1), 1 << places - 2);
            due("sure", b.sure(0, 0), 1);
            due("sure", b.sure(0, 1), 3);
            due("nobody", b.shoes(0, 2), -2);
            due("nobody", b.sure(0, -1), -2);
            due("nobody", b.ask(0, 2), -2);
        }
    }

    /** "its PAPERS as now": from none to nine; "(wherever it is now)". */
    private static void papersAsNow() {
        BackBridge b = Told.of("places 3;road 0 to 1 days 1 bridge;road 0 to 2 days 1;person at 0;lets:papers=9;");
        Told.tray(b, 0, 2, 0);
        for (int n = 0; n < 9; n++) {
            due("not let", b.shoes(0, 0), 4);
            b.forge(0);
        }
        due("let with nine", b.shoes(0, 0), 0);
        Told.tray(b, 0, 2, 1);
        due("let with nine", b.shoes(0, 0), 4);
        b.go(0, 1);
        due("born and where it is", b.shoes(0, 0), 2);
        due("sure", b.sure(0, 0), 5);
        BackBridge c = Told.of("places 2;road 0 to 1 days 1 bridge;person at 0;lets:1=1;takes:9;");
        Told.tray(c, 0, 2, 1);
        due("let, whatever it takes", c.shoes(0, 0), 2);
    }

    // Promise 38: "the lesser number of these sets that were let, or weren't, is greatest, the first"

    private static void askTheFirst() {
        BackBridge b = Told.of("places 6;road 0 to 1 days 1;road 0 to 2 days 1 bridge;road 3 to 0 days 1 bridge;person at 0;");
        Told.tray(b, 0, 2, 111);
        due("half of them, the first", b.ask(0, 0), 10);
        Told.tray(b, 0, 2, 101);
        due("the second", b.ask(0, 0), 21);
        Told.tray(b, 0, 2, 101, 210);
        due("nothing is told by any", b.ask(0, 0), 10);
        BackBridge c = Told.of("places 2;" + Told.times(8, "road 0 to 1 days 1;") + Told.times(4, "road 1 to 0 days 1 bridge;")
                + "person at 0;");
        Told.tray(c, 0, 2, 801);
        due("to its own place nothing is told", c.ask(0, 0), 81);
        Told.tray(c, 0, 2, 801, 811);
        due("one set, the first", c.ask(0, 0), 80);
        BackBridge d = Told.of("places 4;road 0 to 1 days 1 bridge;road 0 to 2 days 1 bridge;person at 0;"
                + "lets:to=1 and seen>3 or to=2 and seen>2 or to=0 and seen=9;");
        Told.tray(d, 0, 2, 110);
        due("one of eight, four of eight", d.ask(0, 0), 10);
        BackBridge e = Told.of("places 4;road 0 to 1 days 1 bridge;road 0 to 2 days 1 bridge;person at 0;"
                + "lets:to=1 and seen<4 or to=2 and seen>3;");
        Told.tray(e, 0, 2, 110);
        due("seven of eight is as one of eight", e.ask(0, 0), 0);
    }

    private static void askWithoutSets() {
        BackBridge b = Told.of("places 2;road 0 to 1 days 1 bridge;person at 0;");
        Told.tray(b, 0, 2, 0, 1);
        due("no sets", b.ask(0, 0), -1);
        due("none", b.shoes(0, 0), 0);
        due("nothing is sure", b.sure(0, 0), 0);
    }

    // Promise 43: "come into a TRAY, as far as it has places: how many"

    private static void listsAsFarAsItHasPlaces() {
        for (int n = 0; n <= 7; n++) {
            BackBridge b = Told.of("places 6;road 0 to 1 days 1;road 1 to 2 days 1;road 2 to 3 days 1;road 3 to 4 days 1;"
                    + "road 4 to 5 days 1;person at 5;person at 0;");
            b.numbers(3, 2, n);
            for (int i = 0; i < n; i++) {
                b.write(3, i, -1);
            }
            int listed = Math.min(n, 5);
            due("lists into " + n, b.lists(3, 1, 5), listed);
            due("all can be", b.perform(3), n);
            due("place", b.person(1, 0), listed);
            due("days of the rest", b.person(0, 1), n - listed);
        }
    }

    private static void listsNoRoads() {
        BackBridge b = Told.of("places 3;road 0 to 1 days 1;person at 0;");
        Told.tray(b, 0, 2, -1, -1);
        due("where it is", b.lists(0, 0, 0), 0);
        due("no way", b.lists(0, 0, 2), -5);
        due("they stay", b.perform(0), 2);
        due("days", b.person(0, 1), 2);
        due("place", b.person(0, 0), 0);
        due("behind the last place", b.lists(0, 0, 3), -2);
        due("ahead of the first place", b.lists(0, 0, -1), -2);
        due("behind the last person", b.lists(0, 1, 0), -2);
        due("ahead of the first person", b.lists(0, -1, 0), -2);
    }

    private static void listsCutToItsSort() {
        String land = "places 2;" + Told.times(12, "road 0 to 1 days 1;") + Told.times(6, "person at 0;");
        for (int sort = 0; sort < 4; sort++) {
            for (int p = 0; p < 6; p++) {
                for (int r = 0; r < 12; r++) {
                    BackBridge b = Told.of(land);
                    for (int k = 0; k < r; k++) {
                        b.shut(k);
                    }
                    b.numbers(0, sort, 1);
                    due("lists", b.lists(0, p, 1), 1);
                    long told = sort == 0 ? (byte) (100 * p + r) : 100 * p + r;
                    BackBridge c = Told.of(land);
                    for (int k = 0; k < r; k++) {
                        c.shut(k);
                    }
                    Told.tray(c, 0, 3, told);
                    due("why of " + told, b.judge(0, 1), c.judge(0, 1));
                    due("done of " + told, b.perform(0), c.perform(0));
                    due("who went by " + told, b.person(p, 0), c.person(p, 0));
                }
            }
        }
    }

    // "IMAGES 0 to 1: THE LAND and what a call could bring back by UNDOING; nothing can be UNDONE behind (none at first)."

    private static void imagesZeroAndOne() {
        BackBridge b = Told.of("places 3;person at 2;");
        for (int i : new int[] {-1, 2, 3, FAR[0], FAR[1]}) {
            due("image " + i, b.image(i), -2);
            due("restore " + i, b.restore(i), -2);
        }
        due("image 1", b.image(1), 0);
        due("image 0", b.image(0), 0);
        due("restore 1", b.restore(1), 0);
        due("restore 0", b.restore(0), 0);
    }

    private static void noneAtFirst() {
        BackBridge b = new BackBridge();
        due("none", b.restore(0), -5);
        due("none", b.restore(1), -5);
        b.image(1);
        due("none of 0", b.restore(0), -5);
        due("of 1", b.restore(1), 0);
        BackBridge c = new BackBridge();
        c.image(0);
        due("none of 1", c.restore(1), -5);
        due("of 0", c.restore(0), 0);
        due("of a new one", c.count(0), 2);
    }

    private static void imageInPlaceOfAnother() {
        BackBridge b = Told.of("places 3;person at 2;");
        b.image(0);
        b.image(1);
        b.days(1);
        b.image(0);
        b.days(1);
        b.restore(0);
        due("the later one", b.person(0, 1), 1);
        b.restore(1);
        due("the other one", b.person(0, 1), 0);
        b.restore(0);
        due("once more", b.person(0, 1), 1);
        b.days(5);
        b.restore(0);
        due("once more", b.person(0, 1), 1);
    }

    private static void nothingUndoneBehind() {
        BackBridge b = Told.of("places 3;person at 2;");
        b.days(1);
        b.days(1);
        b.image(0);
        due("an image undoes nothing", b.count(8), 2);
        due("undo", b.undo(1), 1);
        due("restore", b.restore(0), 0);
        due("day", b.person(0, 1), 2);
        due("nothing can be undone", b.count(8), 0);
        due("nothing", b.undo(1), -3);
        b.days(1);
        due("but what comes then", b.undo(1), 0);
        due("day", b.person(0, 1), 2);
        due("nothing more", b.undo(1), -3);
    }

    private static void allThatIsInAnImage() {
        String land = "places 4;road 0 to 1 days 3 bridge flood 4;road 1 to 2 days 5;person at 0 born 1 papers 6 to 2 by 8;"
                + "person at 3;lets:been=1 or papers=1;takes:2;";
        BackBridge b = Told.of(land);
        b.go(0, 0);
        b.go(0, 1);
        b.shut(0);
        b.image(0);
        Told.land(b, "places 6;" + Told.times(2, "road 4 to 5 days 9 bridge;road 0 to 1 days 1;")
                + Told.times(6, "person at 5 papers 9 to 5 by 1;") + "lets:0=1;takes:0;");
        b.shut(1);
        b.image(1);
        due("restore", b.restore(0), 0);
        int[] counts = {4, 2, 2, 1, 1, 1, 1, 4, 0, 0, 7};
        for (int what = 0; what < counts.length; what++) {
            due("count " + what, b.count(what), counts[what]);
        }
        int[][] people = {{2, 8, 4, 7, 1, 2, 8, 1}, {3, 0, 0, 8, 3, -1, -1, 0}};
        int[][] roads = {{0, 1, 3, 1, 4, 1}, {1, 2, 5, 0, 0, 0}};
        for (int i = 0; i < 2; i++) {
            for (int what = 0; what < 8; what++) {
                due("person " + i + " " + what, b.person(i, what), people[i][what]);
            }
            for (int what = 0; what < 6; what++) {
                due("road " + i + " " + what, b.road(i, what), roads[i][what]);
            }
        }
        due("go", b.go(0, 1), 1);
        due("open", b.shut(0), 0);
        due("laws", b.takes(0, 0), 2);
        due("laws", b.go(0, 0), 0);
        due("restore the other", b.restore(1), 0);
        due("people", b.count(2), 6);
        due("those done", b.count(6), 6);
        due("papers", b.count(7), 54);
    }

    // Promise 46: "NONE for others"

    private static void countsFromNoneToFull() {
        BackBridge b = new BackBridge();
        for (int what : new int[] {-1, 11, 12, -2, FAR[0], FAR[1]}) {
            due("count " + what, b.count(what), -1);
        }
        Told.land(b, "places 6;" + Told.times(8, "road 0 to 1 days 1;") + Told.times(4, "road 0 to 1 days 1 bridge;")
                + Told.times(6, "person at 0 papers 9 to 0 by 0;"));
        for (int r = 0; r < 12; r++) {
            b.shut(r);
        }
        for (int i = 0; i < 45; i++) {
            b.feed(0, 0, 0, 0, 0);
        }
        int[] full = {6, 12, 6, 0xf00, 4095, 6, 6, 54, 10, 900, 19};
        for (int what = 0; what < full.length; what++) {
            due("count " + what, b.count(what), full[what]);
        }
        due("count 11", b.count(11), -1);
        due("count -1", b.count(-1), -1);
    }
}
