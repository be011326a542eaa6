/** Promises 1 to 8: a new object, the tape, the text and its faults, people, roads, why not, papers it takes. */
public final class LandTest {
    private static final String LAND = "places 4;road 0 to 1 days 2 bridge;road 1 to 2 days 3;"
            + "road 2 to 0 days 9 flood 5;road 2 to 3 days 20 bridge flood 1 flood 10 bridge;"
            + "person at 0 papers 2 to 1 by 13;person at 2 born 1;person at 3 papers 9 papers 0 to 3 by 0;takes : 1;";

    private static void due(String what, long got, long want) {
        Told.due(what, got, want);
    }

    public static void main(String[] args) {
        newObject();
        feeding();
        landing();
        landingAgain();
        tokensAndGrammar();
        bounds();
        tooMany();
        nesting();
        faultsAlong();
        nothingOfEarlierLands();
        lawsOfEach();
        lawsOfEachAlike();
        people();
        roads();
        whyNot();
        tolls();
        lawsByName();
        lawsByRank();
        keptSums();
        Told.end();
    }

    private static void newObject() {
        BackBridge b = new BackBridge();
        int[] counts = {2, 0, 0, 0, 0, 0, 0, 0, 0, 0, 0};
        for (int what = 0; what < counts.length; what++) {
            due("new count " + what, b.count(what), counts[what]);
        }
        due("NONE", BackBridge.NONE, -1);
        due("new fault", b.fault(0), 0);
        due("new fault's place", b.fault(1), -1);
        due("new person", b.person(0, 0), -2);
        due("new road", b.road(0, 0), -2);
        due("new undo", b.undo(1), -3);
        due("new perform", b.perform(3), -6);
        due("new restore", b.restore(1), -5);
        due("new inTime", b.inTime(), 0);
    }

    private static void feeding() {
        BackBridge b = new BackBridge();
        due("feed", b.feed(0x706c6163, 0x65732033, 0x3b202020, 0x20202020, 0x2020200a), 20);
        due("highest byte first", b.land(9), 1);
        due("places fed", b.count(0), 3);
        for (int i = 1; i <= 45; i++) {
            due("feed " + i, b.feed(-1, 0, 1, 2, 3), 20 * i);
        }
        due("feed too many", b.feed(0, 0, 0, 0, 0), -5);
        due("tape is full", b.count(9), 900);
        due("byte 255", b.land(900), -31);
        due("tape is empty", b.count(9), 0);
        due("feed once more", b.feed(0, 0, 0, 0, 0), 20);
    }

    private static void landing() {
        BackBridge b = new BackBridge();
        due("lines", Told.land(b, LAND), 9);
        due("count lines", b.count(10), 9);
        due("go", b.go(1, 1), 1);
        due("shut", b.shut(2), 1);
        Told.feed(b, "places 2;");
        due("n too high", b.land(21), -3);
        due("n below 0", b.land(-1), -3);
        due("lowest n", b.land(Integer.MIN_VALUE), -3);
        due("tape stays", b.count(9), 20);
        due("land stays", b.count(0), 4);
        due("a fault", b.land(8), -32);
        due("no tape", b.count(9), 0);
        due("land stays with a fault", b.count(0), 4);
        due("lines stay", b.count(10), 9);
        due("person stays", b.person(1, 0), 1);
        due("shut stays", b.count(4), 4);
        due("undo stays", b.count(8), 2);
        due("fault", b.fault(0), 2);
        due("its place", b.fault(1), 8);
        due("no tape to read", b.land(1), -3);
        due("fault of the latest read", b.fault(0), 2);
        due("an empty text", b.land(0), -32);
        due("place of its fault", b.fault(1), 0);
    }

    private static void landingAgain() {
        BackBridge b = Told.of(LAND);
        b.days(7);
        b.shut(1);
        b.forge(0);
        due("bytes behind n are gone", Told.land(b, "places 2;person at 1;"), 2);
        due("day", b.person(0, 1), 0);
        due("people", b.count(2), 1);
        due("papers", b.count(7), 0);
        due("shut", b.count(4), 0);
        due("undo", b.undo(1), -3);
        due("bridges", b.count(3), 0);
        due("no fault", b.fault(0), 0);
        due("no place of it", b.fault(1), -1);
        Told.feed(b, "places 5;person at 4;  ");
        due("first bytes alone", b.land(9), 1);
        due("nobody", b.count(2), 0);
        due("the tape is empty", b.count(9), 0);
        due("default law again", Told.land(b, "places 2;road 0 to 1 days 1 bridge;person at 0;"), 3);
        due("no law of an earlier land", b.why(0, 0), 4);
    }

    private static void faulty(String text, int kind, int place) {
        Told.faulty(text, kind, place);
    }

    private static void fine(String text, int lines) {
        Told.fine(text, lines);
    }

    private static void tokensAndGrammar() {
        fine("places2;", 1);
        fine(" \n places\n\n2 ;\n", 1);
        fine("places 002;road 0to 1days 001flood 0;", 2);
        fine("places 3;lets:1<2and not[0=0]or 3>2;takes:1;lets:(1)=1;", 4);
        faulty("places\t2;", 1, 6);
        faulty("Places 2;", 1, 0);
        faulty("place 2;", 2, 0);
        faulty("placess 2;", 2, 0);
        faulty("placesx2;", 2, 0);
        faulty("places 2", 2, 8);
        faulty("places", 2, 6);
        faulty("places ", 2, 7);
        faulty("   ", 2, 3);
        faulty("places ;", 2, 7);
        faulty("places 2;places 2;", 2, 9);
        faulty("road 0 to 1 days 1;", 2, 0);
        faulty("places 2;;", 2, 9);
        faulty("places 2;road 0 to 1;", 2, 20);
        faulty("places 2;road 0 1 days 1;", 2, 16);
        faulty("places 2;road 0 to 1 days 1 flood bridge;", 2, 34);
        faulty("places 2;road 0 to 1 days 1 born 1;", 2, 28);
        faulty("places 2;person 0;", 2, 16);
        faulty("places 2;person at 0 to 1;", 2, 25);
        faulty("places 2;person at 0 bridge;", 2, 21);
        faulty("places 2;person at 0 by 1;", 2, 21);
        faulty("places 2;lets 1=1;", 2, 14);
        faulty("places 2;lets : ;", 2, 16);
        faulty("places 2;lets : 1;", 2, 17);
        faulty("places 2;lets : 1 = ;", 2, 20);
        faulty("places 2;lets : (1 = 1);", 2, 19);
        faulty("places 2;lets : [1] = 1;", 2, 18);
        faulty("places 2;lets : 1 = 1 = 1;", 2, 22);
        faulty("places 2;lets : 1 = 1 and;", 2, 25);
        faulty("places 2;lets : 1 = 1 and or 1 = 1;", 2, 26);
        faulty("places 2;lets : [1 = 1;", 2, 22);
        faulty("places 2;lets : not 1;", 2, 21);
        faulty("places 2;takes : 1 = 1;", 2, 19);
        faulty("places 2;takes : - 1;", 2, 17);
        faulty("places 2;takes : 1 2;", 2, 19);
        faulty("places 2;takes : (1;", 2, 19);
        faulty("places 2;takes : not 1;", 2, 17);
        faulty("places 2;takes : at;", 2, 17);
        faulty("places 2;takes : 1", 2, 18);
        faulty("places 2;takes : 1 *", 2, 20);
        faulty("places 2;takes : 1 / 2;", 1, 19);
        faulty("places 2;lets : 1 ! 2;", 1, 18);
        faulty("places 2;takes : \u00e9;", 1, 17);
        faulty("places 2;takes : 1\u0000", 1, 18);
        faulty("places 2;takes : 1_0;", 1, 18);
    }

    private static void bounds() {
        faulty("places 1;", 3, 7);
        faulty("places 7;", 3, 7);
        faulty("places 0000;", 1, 7);
        faulty("places 1234;", 1, 7);
        faulty("places 2;takes : 12345;", 1, 17);
        fine("places 2;takes : 999;", 2);
        faulty("places 3;road 3 to 0 days 1;", 3, 14);
        faulty("places 3;road 0 to 3 days 1;", 3, 19);
        faulty("places 3;road 2 to 2 days 1;", 3, 19);
        faulty("places 3;road 2 to 1 days 0;", 3, 26);
        faulty("places 3;road 2 to 1 days 21;", 3, 26);
        fine("places 3;road 2 to 1 days 20 flood 10;", 2);
        faulty("places 3;road 2 to 1 days 1 flood 11;", 3, 34);
        faulty("places 3;person at 3;", 3, 19);
        faulty("places 3;person at 2 born 3;", 3, 26);
        faulty("places 3;person at 2 papers 10;", 3, 28);
        faulty("places 3;person at 2 to 3 by 1;", 3, 24);
        fine("places 3;person at 2 to 2 by 999 papers 9 born 0;", 2);
        faulty("places 3;person at 2 to 2 by 1000;", 1, 29);
    }

    private static void tooMany() {
        String road = "road 0 to 1 days 1;";
        String person = "person at 0;";
        String bridge = "road 0 to 1 days 1 bridge;";
        fine("places 2;" + road.repeat(12), 13);
        faulty("places 2;" + road.repeat(13), 4, 9 + 12 * road.length());
        faulty("places 2;" + road.repeat(12) + " road x", 4, 10 + 12 * road.length());
        fine("places 2;" + person.repeat(6), 7);
        faulty("places 2;" + person.repeat(7), 4, 9 + 6 * person.length());
        fine("places 2;" + bridge.repeat(4) + road, 6);
        faulty("places 2;" + bridge.repeat(5), 4, 9 + 4 * bridge.length() + 19);
        fine("places 2;" + bridge.repeat(3) + "road 0 to 1 days 1 bridge bridge;", 5);
        BackBridge b = Told.of("places 2;" + "road 0 to 1 days 1 bridge bridge;".repeat(4));
        due("bridges", b.count(3), 15);
    }

    private static void nesting() {
        fine("places 2;lets : not not not not not not 1 = 1;", 2);
        faulty("places 2;lets : not not not not not not not 1 = 1;", 4, 40);
        fine("places 2;lets : [[[[[[1 = 1]]]]]];", 2);
        faulty("places 2;lets : [[[[[[[1 = 1]]]]]]];", 4, 22);
        fine("places 2;takes : ((((((1))))))*((((((1))))));", 2);
        faulty("places 2;takes : (((((((1)))))));", 4, 23);
        fine("places 2;lets : not [not [not (1) = 1]];", 2);
        faulty("places 2;lets : not [not [not [(1) = 1]]];", 4, 31);
        fine("places 2;lets : not [not [not (1) = 1]] and [[[[[[1 = 1 or 1 = 1]]]]]];", 2);
        faulty("places 2;lets : [[[[[[1 = 1]]]]]] and [[[[[[1 = (1)]]]]]];", 4, 48);
        faulty("places 2;lets : 1 = (((((((", 4, 26);
    }

    private static void faultsAlong() {
        faulty("places 9;Road", 3, 7);
        faulty("places 2;road 5 X", 3, 14);
        faulty("places 2;X road 5", 1, 9);
        faulty("places 2 X", 1, 9);
        faulty("places 2;road 0 to 7777 days", 1, 19);
        faulty("places 2;lets : [ 9999", 1, 18);
        BackBridge b = new BackBridge();
        Told.land(b, "places 1;");
        due("fault stays", b.fault(0), 3);
        Told.land(b, "places 2;");
        due("fault is gone", b.fault(0), 0);
        due("its place is gone", b.fault(1), -1);
    }

    private static void nothingOfEarlierLands() {
        BackBridge b = Told.of("places 3;road 0 to 1 days 1 bridge flood 7;person at 0 papers 3 to 0 by 9;"
                + "person at 0 papers 2;lets:1=1;takes:3;");
        due("let", b.why(0, 0), 0);
        due("too few", b.why(1, 0), 5);
        due("done", b.count(6), 1);
        Told.land(b, "places 3;road 0 to 1 days 1 bridge;person at 0 papers 3 to 1 by 9;takes:4;");
        due("another law", b.why(0, 0), 4);
        due("another toll", b.takes(0, 0), 4);
        due("no flood", b.road(0, 4), 0);
        due("nothing done", b.count(6), 0);
        due("papers together", b.count(7), 3);
        Told.land(b, "places 3;road 0 to 1 days 1 bridge;person at 0 born 1 papers 3;");
        due("no laws", b.why(0, 0), 0);
        due("no toll", b.takes(0, 0), 0);
        due("go", b.go(0, 0), 1);
        due("no papers taken", b.person(0, 2), 3);
        BackBridge c = Told.of("places 2;person at 0 to 0 by 0;person at 1 to 1 by 1;person at 0 to 1 by 1;");
        due("two done", c.count(6), 2);
        due("the first", c.person(0, 7), 1);
        BackBridge d = Told.of("places 3;" + "road 0 to 1 days 1;".repeat(7) + "road 1 to 2 days 20 bridge flood 3;");
        Told.land(d, "places 4;" + "road 3 to 2 days 1;".repeat(8) + "fog;");
        due("a draft is no land", d.road(7, 4), 3);
        due("its bridges", d.count(3), 128);
    }

    /** Both laws are asked of each person, bridge, end, papers by themselves. */
    private static void lawsOfEach() {
        StringBuilder text = new StringBuilder("places 6;");
        for (int r = 0; r < 4; r++) {
            text.append("road ").append(r).append(" to ").append(r + 1).append(" days 1 bridge;");
        }
        for (int p = 0; p < 6; p++) {
            text.append("person at ").append(Math.min(p, 4)).append(" papers ").append(9 - p).append(";");
        }
        BackBridge b = Told.of(text + "lets:1=1;takes:((who*5+from)*5+to)-(papers+who)*5;");
        for (int turn = 0; turn < 2; turn++) {
            for (int p = 0; p < 6; p++) {
                for (int r = 0; r < 4; r++) {
                    int from = Math.min(p, 4);
                    int to = from == r ? r + 1 : from == r + 1 ? r : -1;
                    int toll = Math.max(0, (p * 5 + from) * 5 + to - 45);
                    due("takes", b.takes(p, r), to < 0 ? -5 : toll);
                    due("why", b.why(p, r), to < 0 ? 2 : toll > 9 - p ? 5 : 0);
                }
            }
        }
    }

    /** Each person and each bridge by itself, though all have the same papers and have been at as many places. */
    private static void lawsOfEachAlike() {
        String people = Told.times(6, "person at 0;");
        eachAlike("places 6;road 0 to 1 days 1 bridge;road 2 to 0 days 1 bridge;road 0 to 3 days 1 bridge;"
                + "road 4 to 0 days 1 bridge;" + people);
        eachAlike("places 6;road 0 to 1 days 1 bridge;road 0 to 2 days 1 bridge;road 0 to 3 days 1 bridge;"
                + "road 0 to 4 days 1 bridge;" + people);
    }

    private static void eachAlike(String land) {
        for (int who = 0; who < 6; who++) {
            for (int to = 1; to <= 4; to++) {
                BackBridge b = Told.of(land + "lets:who=" + who + " and to=" + to + ";takes:0;");
                BackBridge c = Told.of(land + "lets:1=1;takes:(who-" + who + ")*(who-" + who + ")+(to-" + to + ")*(to-"
                        + to + ");");
                for (int turn = 0; turn < 2; turn++) {
                    for (int p = 0; p < 6; p++) {
                        for (int r = 0; r < 4; r++) {
                            boolean same = p == who && r + 1 == to;
                            due("who is let", b.why(p, r), same ? 0 : 4);
                            due("who has enough", c.why(p, r), same ? 0 : 5);
                        }
                    }
                }
            }
        }
    }

    private static void people() {
        BackBridge b = Told.of(LAND);
        int[][] all = {{0, 0, 2, 1, 0, 1, 13, 0}, {2, 0, 0, 6, 1, -1, -1, 0}, {3, 0, 0, 8, 3, 3, 0, 1}};
        for (int p = 0; p < 3; p++) {
            for (int what = 0; what < 8; what++) {
                due("person " + p + " " + what, b.person(p, what), all[p][what]);
            }
            due("person what 8", b.person(p, 8), -2);
            due("person what -1", b.person(p, -1), -2);
        }
        due("person 3", b.person(3, 0), -2);
        due("person -1", b.person(-1, 0), -2);
        due("person far off", b.person(Integer.MAX_VALUE, 0), -2);
        due("go", b.go(1, 1), 1);
        due("day", b.person(1, 1), 3);
        due("been", b.person(1, 3), 6);
        due("go on", b.go(1, 1), 2);
        due("go on", b.go(1, 2), 0);
        due("been at three", b.person(1, 3), 7);
        due("born stays", b.person(1, 4), 1);
        BackBridge c = Told.of("places 3;person at 1 to 0 by 3 born 2 to 2 by 7 papers 3;");
        due("later errand", c.person(0, 5), 2);
        due("later by", c.person(0, 6), 7);
        due("born", c.person(0, 4), 2);
        due("been", c.person(0, 3), 6);
    }

    private static void roads() {
        BackBridge b = Told.of(LAND);
        int[][] all = {{0, 1, 2, 1, 0, 0}, {1, 2, 3, 0, 0, 0}, {2, 0, 9, 0, 5, 0}, {2, 3, 20, 1, 10, 0}};
        for (int r = 0; r < 4; r++) {
            for (int what = 0; what < 6; what++) {
                due("road " + r + " " + what, b.road(r, what), all[r][what]);
            }
            due("road what 6", b.road(r, 6), -2);
            due("road what -1", b.road(r, -1), -2);
        }
        due("road 4", b.road(4, 0), -2);
        due("road -1", b.road(-1, 0), -2);
        b.shut(2);
        due("shut", b.road(2, 5), 1);
        b.shut(2);
        due("open", b.road(2, 5), 0);
    }

    private static void whyNot() {
        BackBridge b = Told.of("places 3;road 0 to 1 days 1 bridge;road 0 to 2 days 1;road 2 to 1 days 1 bridge;"
                + "person at 0;person at 0 papers 1 born 1;person at 0 born 1;takes:from+1;");
        due("nobody", b.why(3, 0), 1);
        due("nobody", b.why(-1, 0), 1);
        due("no road", b.why(0, 3), 1);
        due("no road", b.why(0, -1), 1);
        due("elsewhere", b.why(0, 2), 2);
        due("not let", b.why(0, 0), 4);
        due("let", b.why(1, 0), 0);
        due("too few papers", b.why(2, 0), 5);
        due("no bridge", b.why(0, 1), 0);
        b.shut(0);
        b.shut(1);
        b.shut(2);
        due("shut ahead of the law", b.why(0, 0), 3);
        due("shut ahead of papers", b.why(2, 0), 3);
        due("shut", b.why(0, 1), 3);
        due("elsewhere ahead of shut", b.why(0, 2), 2);
        due("why changes nothing", b.person(1, 0), 0);
    }

    private static void tolls() {
        BackBridge b = Told.of("places 3;road 0 to 1 days 1 bridge;road 1 to 2 days 1 bridge;road 0 to 2 days 1;"
                + "person at 1;lets:0=1;takes:to*700 - 5;");
        due("takes below 0", b.takes(0, 0), 0);
        due("takes more than one can have", b.takes(0, 1), 1395);
        due("takes elsewhere", b.takes(0, 2), -5);
        due("takes of nobody", b.takes(1, 0), -2);
        due("takes of nobody", b.takes(-1, 5), -2);
        due("takes of no road", b.takes(0, 3), -2);
        due("takes of no road", b.takes(0, -1), -2);
        b.shut(1);
        due("takes though shut", b.takes(0, 1), 1395);
        BackBridge c = Told.of("places 2;road 0 to 1 days 1;road 0 to 1 days 1 bridge;person at 0;takes:9;");
        due("takes no bridge", c.takes(0, 0), 0);
        due("takes a bridge", c.takes(0, 1), 9);
        BackBridge d = Told.of("places 2;road 0 to 1 days 1 bridge;person at 0;");
        due("takes without a law", d.takes(0, 0), 0);
    }

    /** What a sum answers for a person 1 born at 2, at 0, with 4 papers, over the bridge to 1. */
    private static int sum(String sum) {
        return Told.of("places 4;road 1 to 0 days 1 bridge;person at 1;person at 0 born 2 papers 4;takes:" + sum + ";")
                .takes(1, 0);
    }

    private static int truth(String truth) {
        return Told.of("places 4;road 1 to 0 days 1 bridge;person at 1;person at 0 born 2 papers 4;lets:" + truth
                + ";").why(1, 0);
    }

    private static void lawsByName() {
        due("who", sum("who"), 1);
        due("born", sum("born"), 2);
        due("been", sum("been"), 0);
        due("seen", sum("seen"), 2);
        due("papers", sum("papers"), 4);
        due("from", sum("from"), 0);
        due("to", sum("to"), 1);
        BackBridge b = Told.of("places 3;road 0 to 1 days 1 bridge;person at 0 born 1;takes:been*10+from;");
        due("been is 1", b.takes(0, 0), 10);
        BackBridge c = Told.of("places 3;road 0 to 1 days 1 bridge;person at 0;takes:5;takes:2;lets:0=1;lets:1=1;");
        due("later takes", c.takes(0, 0), 2);
        due("later lets", c.why(0, 0), 5);
    }

    private static void lawsByRank() {
        due("times first", sum("2+3*4"), 14);
        due("from the left", sum("20-5-4"), 11);
        due("from the left", sum("20-5+4"), 19);
        due("brackets", sum("20-(5-4)"), 19);
        due("brackets times", sum("(2+3)*4"), 20);
        due("long products", sum("2*3*4-1*5+6*2"), 31);
        due("brackets behind -", sum("9-(2)"), 7);
        due("brackets behind *", sum("9*(2)"), 18);
        due("brackets behind +", sum("9+(2)"), 11);
        due("brackets behind * behind -", sum("99-2*(3)"), 93);
        due("brackets in brackets", sum("50-(20-(9-(3)))*2"), 22);
        due("and before or", truth("1=1 or 1=1 and 0=1"), 0);
        due("and before or", truth("0=1 and 1=1 or 1=1"), 0);
        due("or in brackets", truth("[1=1 or 1=1] and 0=1"), 4);
        due("not binds a unit", truth("not 0=1 and 0=1"), 4);
        due("not of brackets", truth("not [0=1 and 0=1]"), 0);
        due("not not", truth("not not 1=1"), 0);
        due("brackets behind or", truth("1=1 or [0=1]"), 0);
        due("brackets behind or", truth("0=1 or [1=1]"), 0);
        due("brackets behind and", truth("0=1 and [1=1]"), 4);
        due("brackets behind and", truth("1=1 and [0=1]"), 4);
        due("brackets ahead", truth("[0=1] or 1=1 and [1=1 or 0=1]"), 0);
        due("brackets in brackets", truth("1=1 or [0=1 and [1=1 or [0=1]]]"), 0);
        due("brackets in brackets", truth("0=1 or [1=1 and [0=1 or [0=1]]]"), 4);
        due("sums in brackets", truth("1+(2)*(3)=7 and 7-(1+(2-(3)))=7"), 0);
        due("less", truth("1<2"), 0);
        due("less", truth("2<2"), 4);
        due("more", truth("2>1"), 0);
        due("more", truth("2>2"), 4);
        due("equal", truth("2-3=1-2"), 0);
        due("all together", truth("who+born=3 and been=0 and seen=2 and papers=4 and from=0 and to=1"), 0);
    }

    private static void keptSums() {
        due("kept above", sum("999*999*999"), 1000000);
        due("kept above, then less", sum("999*999*999-1"), 999999);
        due("kept below", sum("0-999*999*2-999+999*999*2+7"), 7);
        due("a product below", sum("(0-999)*999*999+999*999+999+999+1"), 0);
        due("kept below, then more", sum("(0-999)*999*999+999*999+999+999+2"), 1);
        due("kept far off", sum("(999*999*2)*(999*999*2)*(0-1)*(0-1)"), 1000000);
    }
}
