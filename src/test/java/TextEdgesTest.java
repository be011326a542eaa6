/**
 * "Terms", the text: each sentence that names a bound, at the last that is still right and at the first that is wrong.
 * Promises 1 to 4. A text that is refused is told behind another land, all of which must stay (Told.faulty).
 */
public final class TextEdgesTest {
    private static final String P2 = "places 2;";
    private static final String ROAD = "road 0 to 1 days 1;";
    private static final String BRIDGE = "road 0 to 1 days 1 bridge;";
    private static final String PERSON = "person at 0;";

    private static void due(String what, long got, long want) {
        Told.due(what, got, want);
    }

    private static BackBridge fine(String text, int lines) {
        return Told.fine(text, lines);
    }

    private static void faulty(String text, int kind, int place) {
        Told.faulty(text, kind, place);
    }

    /** A text without a fault behind the first part, with the one given behind it: the fault is at the last part. */
    private static void faultyAt(String before, String rest, int kind) {
        faulty(before + rest, kind, before.length());
    }

    public static void main(String[] args) {
        withoutText();
        at900Bytes();
        feedingTo900();
        howManyBytesAreRead();
        noLines();
        manyLines();
        longestLaws();
        placesFirstAndOnce();
        placesTwoToSix();
        numbersOfPlaces();
        unlikePlaces();
        daysOneToTwenty();
        fourBridges();
        floodZeroToTen();
        twelveRoads();
        sixPeople();
        lastOfAll();
        bornWhereItIs();
        papersZeroToNine();
        errandByZeroTo999();
        laterMarksStrike();
        laterLawsStrike();
        sixWithinOneAnother();
        besideOneAnother();
        everyByte();
        blanks();
        oneToThreeDigits();
        asLongAsTheyGoOn();
        theEnd();
        leastKindOfOneToken();
        firstAlongTheText();
        everyPrefix();
        faultOfTheLatest();
        Told.end();
    }

    // "THE LAND is a TEXT of at most 900 bytes (without one: 2 PLACES, no roads, no PEOPLE)"

    private static void withoutText() {
        BackBridge b = new BackBridge();
        int[] counts = {2, 0, 0, 0, 0, 0, 0, 0, 0, 0, 0};
        for (int what = 0; what < counts.length; what++) {
            due("count " + what + " of a new one", b.count(what), counts[what]);
        }
        due("no road", b.road(0, 0), -2);
        due("nobody", b.person(0, 0), -2);
        due("no fault", b.fault(0), 0);
        due("no place of a fault", b.fault(1), -1);
        due("no law is broken by nobody", b.inTime(), 0);
    }

    private static void at900Bytes() {
        String end = "person at 1;";
        String text = P2 + Told.times(900 - P2.length() - end.length(), " ") + end;
        due("bytes", text.length(), 900);
        BackBridge b = fine(text, 2);
        due("who is told by the last bytes", b.person(0, 0), 1);
        BackBridge c = new BackBridge();
        Told.feed(c, text);
        due("a byte less", c.land(899), -32);
        due("its end", c.fault(1), 899);
        faulty(P2 + Told.times(891, "\n").substring(1) + "X", 1, 899);
    }

    private static void feedingTo900() {
        BackBridge b = new BackBridge();
        for (int i = 1; i < 45; i++) {
            due("feed " + i, b.feed(0x20202020, 0x20202020, 0x20202020, 0x20202020, 0x20202020), 20 * i);
        }
        due("the last feed", b.feed(0x706c6163, 0x65732035, 0x3b202020, 0x20202020, 0x20202020), 900);
        due("one more", b.feed(0x41414141, 0x41414141, 0x41414141, 0x41414141, 0x41414141), -5);
        due("bytes stay", b.count(9), 900);
        due("what was fed stays", b.land(900), 1);
        due("places", b.count(0), 5);
        due("the tape is empty then", b.feed(0, 0, 0, 0, 0), 20);
    }

    /** "The first n bytes of THE TAPE (which is empty then)": also those behind n are gone. */
    private static void howManyBytesAreRead() {
        BackBridge b = new BackBridge();
        due("nothing is fed, 1 asked for", b.land(1), -3);
        due("below 0", b.land(-1), -3);
        due("nothing at all", b.land(0), -32);
        Told.feed(b, "places 4;person at 3;");
        due("more than there is", b.land(41), -3);
        due("the tape stays", b.count(9), 40);
        due("the fault of the one read stays", b.fault(0), 2);
        due("below 0", b.land(-1), -3);
        due("the tape stays", b.count(9), 40);
        due("least of all", b.land(Integer.MIN_VALUE), -3);
        due("most of all", b.land(Integer.MAX_VALUE), -3);
        due("first bytes", b.land(9), 1);
        due("places", b.count(0), 4);
        due("nobody", b.count(2), 0);
        due("nothing is left", b.count(9), 0);
        due("nothing is left", b.land(1), -3);
        Told.feed(b, "places 3;           ");
        due("all there is", b.land(20), 1);
    }

    private static void noLines() {
        BackBridge b = fine(P2, 1);
        due("roads", b.count(1), 0);
        due("people", b.count(2), 0);
        faulty("", 2, 0);
        faulty("places", 2, 6);
        faulty("places 2", 2, 8);
    }

    private static void manyLines() {
        fine(P2 + Told.times(111, "takes:1;"), 112);
        fine(P2 + Told.times(99, "lets:1=1;"), 100);
    }

    private static void longestLaws() {
        String land = P2 + BRIDGE + PERSON + "takes:";
        int ones = (900 - land.length()) / 2;
        BackBridge b = fine(land + Told.times(ones - 1, "1+") + "1;", 4);
        due("a sum of " + ones, b.takes(0, 0), ones);
        BackBridge c = fine(land + "2*" + Told.times(ones - 2, "1*") + "3;", 4);
        due("a long product", c.takes(0, 0), 6);
        String lets = P2 + BRIDGE + PERSON + "lets:";
        int units = (900 - lets.length() - 4) / 6;
        due("a long or", fine(lets + Told.times(units, "0=1or ") + "1=1;", 4).why(0, 0), 0);
        units = (900 - lets.length() - 4) / 7;
        due("a long and", fine(lets + Told.times(units, "1=1and ") + "0=1;", 4).why(0, 0), 4);
        due("a long and that holds", fine(lets + Told.times(units, "1=1and ") + "1=1;", 4).why(0, 0), 0);
    }

    // "places must be told first, and once"

    private static void placesFirstAndOnce() {
        faulty(ROAD + P2, 2, 0);
        faulty(PERSON, 2, 0);
        faulty("lets:1=1;", 2, 0);
        faulty("takes:1;", 2, 0);
        faulty(";", 2, 0);
        faultyAt(P2, P2, 2);
        faultyAt(P2 + ROAD + PERSON, "places 3;", 2);
    }

    // "places: PLACES, 2 to 6, numbered from 0 on"

    private static void placesTwoToSix() {
        for (int n = 0; n < 1000; n++) {
            if (n >= 2 && n <= 6) {
                due("places", fine("places " + n + ";", 1).count(0), n);
            } else if (n < 12 || n > 990) {
                faulty("places " + n + ";", 3, 7);
            }
        }
    }

    private static void numbersOfPlaces() {
        String[] before = {"road ", "road 1 to ", "person at ", "person at 0 born ", "person at 0 to "};
        String[] behind = {" to 1 days 1;", " days 1;", ";", ";", " by 5;"};
        for (int places = 2; places <= 6; places++) {
            for (int k = 0; k < before.length; k++) {
                String told = "places " + places + ";" + before[k];
                int last = k == 0 && places == 2 ? 0 : places - 1;
                if (k != 1 || last != 1) {
                    fine(told + last + behind[k], 2);
                }
                fine(told + 0 + behind[k], 2);
                faultyAt(told, places + behind[k], 3);
                faultyAt(told, 999 + behind[k], 3);
                faultyAt(told, "-1" + behind[k], 2);
            }
        }
    }

    // "road: between two unlike PLACES, both ways, DAYS 1 to 20"

    private static void unlikePlaces() {
        for (int a = 0; a < 6; a++) {
            for (int b = 0; b < 6; b++) {
                String told = "places 6;road " + a + " to ";
                if (a == b) {
                    faultyAt(told, b + " days 1;", 3);
                    faultyAt(told, "00" + b + " days 1;", 3);
                } else {
                    BackBridge c = fine(told + b + " days 1;person at " + b + ";", 3);
                    due("first place", c.road(0, 0), a);
                    due("second place", c.road(0, 1), b);
                    due("the other way", c.go(0, 0), a);
                    due("and back", c.go(0, 0), b);
                }
            }
        }
    }

    private static void daysOneToTwenty() {
        String told = P2 + "road 0 to 1 days ";
        faultyAt(told, "0;", 3);
        due("days", fine(told + "1;", 2).road(0, 2), 1);
        due("days", fine(told + "20;", 2).road(0, 2), 20);
        faultyAt(told, "21;", 3);
        faultyAt(told, "999;", 3);
        faultyAt(told, ";", 2);
    }

    // "bridge: it is a BRIDGE (4 at most)"; "the word of a 5th bridge (of one road a second one is none)"

    private static void fourBridges() {
        due("none", fine(P2 + ROAD, 2).count(3), 0);
        due("four", fine(P2 + Told.times(4, BRIDGE), 5).count(3), 15);
        due("four, the last of twelve", fine(P2 + Told.times(8, ROAD) + Told.times(4, BRIDGE), 13).count(3), 15 << 8);
        due("four among others", fine(P2 + Told.times(4, ROAD + BRIDGE) + ROAD, 10).count(3), 0xaa);
        faultyAt(P2 + Told.times(4, BRIDGE) + "road 0 to 1 days 1 ", "bridge;", 4);
        faultyAt(P2 + Told.times(4, BRIDGE) + "road 0 to 1 days 1 flood 3 flood 4 ", "bridge bridge;", 4);
        faultyAt(P2 + Told.times(4, BRIDGE) + Told.times(7, ROAD) + "road 0 to 1 days 1 ", "bridge;", 4);
        String twice = "road 0 to 1 days 1 bridge bridge flood 2 bridge;";
        due("said three times", fine(P2 + Told.times(4, twice), 5).count(3), 15);
        faultyAt(P2 + Told.times(4, twice) + "road 0 to 1 days 1 ", "bridge;", 4);
        due("told once more behind four", fine(P2 + Told.times(4, BRIDGE) + ROAD, 6).count(3), 15);
    }

    // "flood: how likely, in 10, 0 to 10 (0); later floods strike"

    private static void floodZeroToTen() {
        String told = P2 + "road 0 to 1 days 1";
        due("not told", fine(told + ";", 2).road(0, 4), 0);
        for (int n = 0; n <= 10; n++) {
            due("flood", fine(told + " flood " + n + ";", 2).road(0, 4), n);
        }
        faultyAt(told + " flood ", "11;", 3);
        faultyAt(told + " flood ", "999;", 3);
        faultyAt(told + " flood ", ";", 2);
        due("a later one", fine(told + " flood 10 flood 0;", 2).road(0, 4), 0);
        due("a later one", fine(told + " flood 0 bridge flood 3 flood 10;", 2).road(0, 4), 10);
        faultyAt(told + " flood ", "11 flood 1;", 3);
        due("not that of another road", fine(told + " flood 7;road 0 to 1 days 1;", 3).road(1, 4), 0);
    }

    // "numbered from 0 on, 12 at most"; "the first TOKEN of a 13th road"

    private static void twelveRoads() {
        BackBridge b = fine(P2 + Told.times(11, ROAD) + "road 1 to 0 days 7;", 13);
        due("roads", b.count(1), 12);
        due("the first", b.road(0, 2), 1);
        due("the twelfth", b.road(11, 2), 7);
        due("no thirteenth", b.road(12, 2), -2);
        due("none ahead of the first", b.road(-1, 2), -2);
        faultyAt(P2 + Told.times(12, ROAD), ROAD, 4);
        faultyAt(P2 + Told.times(12, ROAD) + PERSON + "\n ", ROAD, 4);
        faultyAt(P2 + Told.times(12, ROAD), "road", 4);
        fine(P2 + Told.times(12, ROAD) + PERSON, 14);
    }

    // "person: .. numbered from 0 on, 6 at most"; "a 7th person"

    private static void sixPeople() {
        BackBridge b = fine(P2 + Told.times(5, PERSON) + "person at 1;", 7);
        due("people", b.count(2), 6);
        due("the first", b.person(0, 0), 0);
        due("the sixth", b.person(5, 0), 1);
        due("no seventh", b.person(6, 0), -2);
        due("none ahead of the first", b.person(-1, 0), -2);
        faultyAt(P2 + Told.times(6, PERSON), PERSON, 4);
        faultyAt(P2 + Told.times(6, PERSON) + ROAD + " ", "person 77", 4);
        fine(P2 + Told.times(6, PERSON) + ROAD, 8);
    }

    /** All that is told of the twelfth road and of the sixth person, also behind an image. */
    private static void lastOfAll() {
        BackBridge b = fine("places 6;" + Told.times(11, ROAD) + "road 5 to 4 days 19 bridge flood 9;"
                + Told.times(5, PERSON) + "person at 3 born 2 papers 8 to 1 by 998;", 19);
        int[] road = {5, 4, 19, 1, 9, 0};
        int[] person = {3, 0, 8, 12, 2, 1, 998, 0};
        for (int turn = 0; turn < 2; turn++) {
            for (int what = 0; what < road.length; what++) {
                due("the last road, " + what, b.road(11, what), road[what]);
            }
            for (int what = 0; what < person.length; what++) {
                due("the last person, " + what, b.person(5, what), person[what]);
            }
            b.image(0);
            Told.land(b, "places 6;" + Told.times(12, ROAD) + Told.times(6, PERSON));
            due("another land's road", b.road(11, 4), 0);
            due("another land's person", b.person(5, 4), 0);
            b.restore(0);
        }
    }

    // "born: where (where it is at)"

    private static void bornWhereItIs() {
        for (int at = 0; at < 6; at++) {
            BackBridge b = fine("places 6;person at " + at + ";person at " + at + " born " + (5 - at) + ";", 3);
            due("born where it is", b.person(0, 4), at);
            due("been", b.person(0, 3), 1 << at);
            due("born elsewhere", b.person(1, 4), 5 - at);
            due("been at both", b.person(1, 3), 1 << at | 1 << 5 - at);
        }
        faulty(P2 + "person born 1;", 2, P2.length() + 7);
    }

    // "papers: PAPERS, 0 to 9 (0)"

    private static void papersZeroToNine() {
        String told = P2 + "person at 0";
        due("not told", fine(told + ";", 2).person(0, 2), 0);
        for (int n = 0; n <= 9; n++) {
            due("papers", fine(told + " papers " + n + ";", 2).person(0, 2), n);
        }
        faultyAt(told + " papers ", "10;", 3);
        faultyAt(told + " papers ", "999;", 3);
        faultyAt(told + " papers ", ";", 2);
        BackBridge b = fine(P2 + Told.times(6, "person at 0 papers 9;"), 7);
        due("all together", b.count(7), 54);
    }

    // "to: its ERRAND, a PLACE, by a DAY, 0 to 999 (none)"

    private static void errandByZeroTo999() {
        String told = P2 + "person at 0";
        BackBridge b = fine(told + ";", 2);
        due("no errand's place", b.person(0, 5), -1);
        due("no errand's day", b.person(0, 6), -1);
        due("none", b.count(5), 0);
        due("none is done", b.person(0, 7), 0);
        due("by 0", fine(told + " to 1 by 0;", 2).person(0, 6), 0);
        due("by 999", fine(told + " to 1 by 999;", 2).person(0, 6), 999);
        due("to 0", fine(told + " to 0 by 1;", 2).person(0, 5), 0);
        faultyAt(told + " to 1 by ", "1000;", 1);
        faultyAt(told + " to 1 ", ";", 2);
        faultyAt(told + " to 1 by ", ";", 2);
        faultyAt(told + " ", "by 1;", 2);
        due("of all", fine(P2 + Told.times(6, "person at 0 to 0 by 0;"), 7).count(5), 6);
    }

    // "later ones of a mark strike"; "Later ones of lets, takes strike"

    private static void laterMarksStrike() {
        BackBridge b = fine("places 6;person at 0 born 3 papers 7 to 4 by 9 born 2 papers 0 to 5 by 1;", 2);
        int[] told = {0, 0, 0, 5, 2, 5, 1, 0};
        for (int what = 0; what < told.length; what++) {
            due("person " + what, b.person(0, what), told[what]);
        }
        due("an errand struck by where it is", fine(P2 + "person at 0 to 1 by 9 to 0 by 0;", 2).person(0, 7), 1);
        due("an errand that was struck", fine(P2 + "person at 0 to 0 by 0 to 1 by 9;", 2).person(0, 7), 0);
        due("one errand", fine(P2 + "person at 0 to 0 by 0 to 1 by 9;", 2).count(5), 1);
        faultyAt(P2 + "person at 0 papers ", "10 papers 1;", 3);
        faultyAt(P2 + "person at 0 born ", "2 born 1;", 3);
        due("not those of another one", fine(P2 + "person at 0 papers 3 to 1 by 1;person at 0;", 3).person(1, 2), 0);
    }

    private static void laterLawsStrike() {
        String told = P2 + BRIDGE + PERSON;
        due("later lets", fine(told + "lets:1=1;lets:0=1;", 5).why(0, 0), 4);
        due("later lets", fine(told + "lets:0=1;lets:1=1;", 5).why(0, 0), 0);
        due("later takes", fine(told + "takes:3;takes:5;", 5).takes(0, 0), 5);
        due("later takes of fewer signs", fine(told + "takes:3+4*5;takes:2;", 5).takes(0, 0), 2);
        due("takes stays by lets", fine(told + "takes:3;lets:1=1;", 5).takes(0, 0), 3);
        due("lets stays by takes", fine(told + "lets:1=1;takes:0;", 5).why(0, 0), 0);
        due("told ahead of all", fine(P2 + "lets:1=1;takes:7;" + BRIDGE + PERSON, 5).why(0, 0), 5);
        faultyAt(told + "lets:", ";lets:1=1;", 2);
    }

    // "At most six of not [ ( within one another"; "a seventh of not [ ("

    private static void sixWithinOneAnother() {
        for (int nots = 0; nots <= 7; nots++) {
            for (int squares = 0; squares <= 7; squares++) {
                for (int rounds = 0; rounds <= 7; rounds++) {
                    String opened = P2 + "lets:" + Told.times(nots, "not ") + Told.times(squares, "[")
                            + Told.times(rounds, "(");
                    String closed = "1" + Told.times(rounds, ")") + "=1" + Told.times(squares, "]") + ";";
                    if (nots + squares + rounds <= 6) {
                        fine(opened + closed, 2);
                    } else {
                        faulty(opened + closed, 4, seventh(nots, squares));
                    }
                }
            }
        }
        fine(P2 + "takes:((((((1))))));", 2);
        faultyAt(P2 + "takes:((((((", "(1)))))));", 4);
        faultyAt(P2 + "lets:[not [not [not ", "[1=1]]]];", 4);
        faultyAt(P2 + "lets:not [1=1 and not [1=((1+", "(1)))]];", 4);
        fine(P2 + "lets:not [1=1 and not [1=((1))]];", 2);
    }

    private static int seventh(int nots, int squares) {
        int begin = P2.length() + 5;
        return nots >= 7 ? begin + 6 * 4 : begin + nots * 4 + 6 - nots;
    }

    /** Those that are closed do not count. */
    private static void besideOneAnother() {
        fine(P2 + "takes:((((((1))))))+((((((1))))))*((((((1))))));", 2);
        fine(P2 + "lets:((((((1))))))=((((((1))))));", 2);
        fine(P2 + "lets:[[[[[[1=1]]]]]]and[[[[[[1=1]]]]]]or[[[[[[1=1]]]]]];", 2);
        fine(P2 + "lets:not not not not not not 1=1 and not not not not not not 1=1;", 2);
        fine(P2 + "lets:not not not not not not 1=1 or [[[[[(1)=(1)]]]]];", 2);
        faultyAt(P2 + "takes:((((((1))))))+((((((", "(1)))))));", 4);
        faultyAt(P2 + "lets:[[[[[[1=1]]]]]]and[[[[[[1=", "(1)]]]]]];", 4);
        faultyAt(P2 + "lets:[[[[[1=1]]]]]and[[[[[[1=1 or ", "not 1=1]]]]]];", 4);
    }

    // "TOKENS, as long as they go on, between them blanks (10, 32): words (small letters), N (1 to 3 digits), the signs"

    private static void everyByte() {
        for (int sign = 0; sign < 256; sign++) {
            String text = P2 + (char) sign;
            boolean token = sign >= 'a' && sign <= 'z' || sign >= '0' && sign <= '9'
                    || ";:+-*()[]=<>".indexOf(sign) >= 0;
            if (sign == 10 || sign == 32) {
                fine(text, 1);
            } else {
                faulty(text, token ? 2 : 1, P2.length());
            }
            if (!token && sign != 10 && sign != 32) {
                faulty("places" + (char) sign + "2;", 1, 6);
                faulty("places 2" + (char) sign + ";", 1, 8);
                faulty((char) sign + P2, 1, 0);
                faulty(P2 + "takes:1+" + (char) sign, 1, P2.length() + 8);
            }
        }
    }

    private static void blanks() {
        fine("\n \n\nplaces\n2\n;\n \n", 1);
        fine("places2;road 0to 1days 1bridge flood 1;person\nat\n0born 1;lets:1=1and 1<2;", 4);
        faulty("place s2;", 2, 0);
        faulty("places 2\r;", 1, 8);
        faulty("places 2\t;", 1, 8);
        faulty("places 2\u00a0;", 1, 8);
        faulty("placestwo;", 2, 0);
    }

    private static void oneToThreeDigits() {
        String told = P2 + BRIDGE + PERSON + "takes:";
        due("one digit", fine(told + "7;", 4).takes(0, 0), 7);
        due("two digits", fine(told + "70;", 4).takes(0, 0), 70);
        due("three digits", fine(told + "999;", 4).takes(0, 0), 999);
        due("three with noughts", fine(told + "007;", 4).takes(0, 0), 7);
        faultyAt(told, "1000;", 1);
        faultyAt(told, "0000;", 1);
        faultyAt(told, "0007;", 1);
        faultyAt(told, "12345678901234567890;", 1);
        faultyAt(told + "1+", "9999", 1);
        faultyAt("places ", "0002;", 1);
        faultyAt(P2 + "road 0 to 1 days ", "0001;", 1);
        fine("places 002;road 000 to 001 days 020 flood 010;person at 001 born 000 papers 009 to 001 by 099;", 3);
    }

    private static void asLongAsTheyGoOn() {
        faulty("placesplaces 2;", 2, 0);
        faultyAt(P2 + "road 0 to ", "11 days 1;", 3);
        faultyAt(P2 + "road 0 to 1 days 1 ", "bridgeflood 1;", 2);
        faultyAt(P2 + "road 0 to 1 days 1 ", "1;", 2);
        faultyAt(P2 + "takes:1 ", "1;", 2);
        faultyAt(P2 + "takes:", "whoborn;", 2);
        for (char c = 'a'; c <= 'z'; c++) {
            faultyAt(P2, "road" + c + " 0 to 1 days 1;", 2);
            faultyAt(P2, c + "road 0 to 1 days 1;", 2);
            faultyAt(P2 + "takes:", "ro" + c + "m;", 2);
        }
        for (char c = '0'; c <= '9'; c++) {
            faultyAt(P2 + "road 0 to 1 days ", "9" + c + ";", 3);
            faultyAt(P2 + "takes:", "999" + c + ";", 1);
            fine(P2 + "takes:" + c + c + c + ";", 2);
        }
        faultyAt(P2 + "lets:", "nota=1;", 2);
        fine(P2 + "lets:not1=1;", 2);
        fine(P2 + "lets:who=1and2=3or4=5;", 2);
    }

    // "2 it can't stand there (the end: the text's length ..)"

    private static void theEnd() {
        faulty("   \n", 2, 4);
        faulty("places 2  ", 2, 10);
        faulty(P2 + "road 0 to 1 days 1  ", 2, P2.length() + 20);
        faulty(P2 + "person at 0", 2, P2.length() + 11);
        faulty(P2 + "person at", 2, P2.length() + 9);
        faulty(P2 + "lets:[1=1", 2, P2.length() + 9);
        faulty(P2 + "lets:", 2, P2.length() + 5);
        faulty(P2 + "takes", 2, P2.length() + 5);
        faulty(P2 + "takes:(1", 2, P2.length() + 8);
        BackBridge b = new BackBridge();
        Told.feed(b, "places 2;person at 1;");
        due("the text ends at n", b.land(20), -32);
        due("its length", b.fault(1), 20);
    }

    // "FAULTS, the first along the text, of one TOKEN the least kind"

    private static void leastKindOfOneToken() {
        faultyAt("places ", "9999;", 1);
        faultyAt("places 2 ", "9999;", 1);
        faultyAt("places 2 ", "9;", 2);
        faultyAt(P2 + "road 0 ", "9 days 1;", 2);
        faultyAt(P2 + "road 0 to 1 days 1 flood ", "1111;", 1);
        faultyAt(P2 + Told.times(12, ROAD), "Road", 1);
        faultyAt(P2 + Told.times(12, ROAD) + "takes:", "road;", 2);
        faultyAt(P2 + Told.times(12, ROAD) + "person at 0 ", "road;", 2);
        faultyAt(P2 + Told.times(6, PERSON) + "lets:", "person;", 2);
        faultyAt(P2 + Told.times(4, BRIDGE) + "person at 0 ", "bridge;", 2);
        faultyAt(P2 + Told.times(4, BRIDGE) + "road 0 to 1 days ", "bridge;", 2);
        faultyAt(P2 + "takes:((((((1", "(1)))))));", 2);
        faultyAt(P2 + "takes:((((((", "[1=1]))))));", 2);
        faultyAt(P2 + "takes:((((((", "not 1))))));", 2);
        faultyAt(P2 + "lets:not not not not not not 1=", "not 1=1;", 2);
        faultyAt(P2 + "lets:[[[[[[1=", "[1=1]]]]]]];", 2);
        faultyAt(P2 + "lets:[[[[[[1=1", "[1=1]]]]]]];", 2);
    }

    private static void firstAlongTheText() {
        String[] parts = {"takes:4;", "person at 0 born Q;", "road 0 to to;", "person at 7;"};
        int[] kinds = {0, 1, 2, 3};
        int[] at = {0, 17, 10, 10};
        for (int a = 0; a < parts.length; a++) {
            for (int b = 1; b < parts.length; b++) {
                String text = P2 + parts[a] + parts[b];
                int place = a > 0 ? P2.length() + at[a] : P2.length() + parts[0].length() + at[b];
                faulty(text, a > 0 ? kinds[a] : kinds[b], place);
            }
            if (a > 0) {
                String many = P2 + Told.times(6, PERSON);
                faulty(many + PERSON + parts[a], 4, many.length());
                faulty(P2 + parts[a] + Told.times(13, ROAD), kinds[a], P2.length() + at[a]);
            }
        }
    }

    /** A text cut anywhere: as the model reads it. */
    private static void everyPrefix() {
        String text = "places 4;road 0 to 1 days 2 bridge flood 10;person at 3 born 2 papers 9 to 1 by 999;"
                + "lets:not[been=1 and papers>2 or (seen-1)*2<who];takes:papers-from+to*born;";
        for (int n = 0; n <= text.length(); n++) {
            BackBridge b = new BackBridge();
            Model m = new Model();
            Told.feed(b, text);
            for (int i = 0; i < text.length(); i += 20) {
                int[] v = new int[5];
                for (int k = 0; k < 20; k++) {
                    v[k / 4] = v[k / 4] << 8 | (i + k < text.length() ? text.charAt(i + k) : 0);
                }
                m.feed(v);
            }
            due("the first " + n, b.land(n), m.land(n));
            due("fault of the first " + n, b.fault(0), m.fault(0));
            due("its place in the first " + n, b.fault(1), m.fault(1));
            due("lines of the first " + n, b.count(10), m.count(10));
        }
    }

    // Promise 4: "Of the latest land() that was read, what 0: its FAULT (0), 1: its place (NONE). NONE for others."

    private static void faultOfTheLatest() {
        BackBridge b = new BackBridge();
        due("a faulty one", Told.land(b, "places 7;"), -33);
        due("refused", b.land(1), -3);
        due("its fault stays", b.fault(0), 3);
        due("its place stays", b.fault(1), 7);
        due("another faulty one", Told.land(b, "X"), -31);
        due("its fault", b.fault(0), 1);
        due("its place", b.fault(1), 0);
        due("one without a fault", Told.land(b, P2), 1);
        due("refused", b.land(-1), -3);
        due("no fault", b.fault(0), 0);
        due("no place", b.fault(1), -1);
        for (int what : new int[] {-1, 2, 3, -2, Integer.MAX_VALUE, Integer.MIN_VALUE}) {
            due("fault " + what, b.fault(what), -1);
        }
        Told.land(b, "places 7;");
        due("fault 2 of a faulty one", b.fault(2), -1);
        due("fault -1 of a faulty one", b.fault(-1), -1);
    }
}
