/** Promises 36 to 46: answers at bridges, floods, trays, images, counts. */
public final class TraysTest {
    private static void due(String what, long got, long want) {
        Told.due(what, got, want);
    }

    public static void main(String[] args) {
        shoesByDefault();
        shoesByLaw();
        asking();
        askingWhatTells();
        wrongAnswers();
        drying();
        dryingMuch();
        safest();
        trays();
        sorts();
        listing();
        images();
        imagesOfLands();
        counts();
        Told.end();
    }

    private static void shoesByDefault() {
        BackBridge b = Told.of("places 4;road 0 to 1 days 1 bridge;road 1 to 2 days 1;road 2 to 3 days 1 bridge;"
                + "person at 2 born 1;");
        Told.tray(b, 0, 1, 1);
        due("let over to 1, where it was born", b.shoes(0, 0), 4);
        due("sure", b.sure(0, 0), 6);
        Told.tray(b, 0, 1, 0);
        due("not let over to where it was born", b.shoes(0, 0), 0);
        due("sure without any", b.sure(0, 0), 0);
        due("ask without any", b.ask(0, 0), -1);
        Told.tray(b, 0, 1, 11);
        due("let over to 0", b.shoes(0, 0), 2);
        due("sure", b.sure(0, 0), 7);
        Told.tray(b, 0, 1, 11, 200);
        due("not let over to 3", b.shoes(0, 0), 1);
        due("sure", b.sure(0, 0), 7);
        Told.tray(b, 0, 1, 201, 200);
        due("against itself", b.shoes(0, 0), 0);
        Told.tray(b, 0, 1, 211);
        due("the first end told is 2", b.shoes(0, 0), 4);
    }

    private static void shoesByLaw() {
        BackBridge b = Told.of("places 5;road 3 to 4 days 1 bridge;person at 0 papers 2;"
                + "lets:seen>2 and papers=2 and from=3 or seen=1 and who=0 and born=0 and to=3;");
        Told.tray(b, 1, 1, 1);
        due("three and more", b.shoes(1, 0), 6 + 4 + 1);
        due("sure", b.sure(1, 0), 1);
        Told.tray(b, 1, 1, 0);
        due("one or two", b.shoes(1, 0), 5);
        Told.tray(b, 1, 1, 11);
        due("to 3 with one alone", b.shoes(1, 0), 1);
        due("sure of that", b.sure(1, 0), 1);
        b.forge(0);
        Told.tray(b, 1, 1, 1);
        due("papers as now", b.shoes(1, 0), 0);
        due("where it has gone since", b.person(0, 3), 1);
    }

    private static void asking() {
        BackBridge b = Told.of("places 5;road 0 to 1 days 1 bridge;road 3 to 2 days 1;road 1 to 3 days 1 bridge;"
                + "road 3 to 4 days 1 bridge;person at 0;");
        Told.tray(b, 2, 0, 11);
        due("sixteen sets", b.shoes(2, 0), 16);
        due("the first bridge and end that halves", b.ask(2, 0), 0);
        Told.tray(b, 2, 0, 1);
        due("it has been at 1", b.ask(2, 0), 20);
        Told.tray(b, 2, 2, 1, 200);
        due("not at 3", b.ask(2, 0), 30);
        Told.tray(b, 2, 2, 1, 200, 300);
        due("nothing is told by any", b.ask(2, 0), 0);
        due("two sets", b.shoes(2, 0), 2);
        Told.tray(b, 2, 2, 0, 201);
        due("sets", b.shoes(2, 0), 4);
        due("ask at 4", b.ask(2, 0), 30);
        due("nothing changes", b.count(8), 0);
    }

    private static void askingWhatTells() {
        BackBridge b = Told.of("places 4;road 0 to 1 days 1 bridge;road 0 to 2 days 1 bridge;person at 0;"
                + "lets:to=1 and seen>3 or from=1 and seen>2 or to=2 and seen>1 or from=2;");
        Told.tray(b, 0, 2, 111);
        due("all eight", b.shoes(0, 0), 8);
        due("four and four by the second end", b.ask(0, 0), 1);
        BackBridge c = Told.of("places 4;road 0 to 1 days 1 bridge;road 0 to 2 days 1 bridge;person at 0;"
                + "lets:to=1 and seen>3 or to=2 and seen>1;");
        Told.tray(c, 0, 2, 110);
        due("all eight", c.shoes(0, 0), 8);
        due("the lesser number of like ones", c.ask(0, 0), 0);
        BackBridge d = Told.of("places 4;road 0 to 1 days 1 bridge;road 0 to 2 days 1 bridge;person at 0;"
                + "lets:to=1 and seen>3 or to=2 and seen>2;");
        Told.tray(d, 0, 2, 110);
        due("the greater one", d.ask(0, 0), 10);
    }

    private static void wrongAnswers() {
        BackBridge b = Told.of("places 3;road 0 to 1 days 1 bridge;road 1 to 2 days 1;person at 0;");
        wrong(b, 0, 1, -2);
        wrong(b, 4, 0, -2);
        wrong(b, -1, 0, -2);
        wrong(b, 0, -1, -2);
        wrong(b, 0, 0, -6);
        b.numbers(0, 2, 0);
        wrong(b, 0, 0, -4);
        wrong(b, 0, 7, -2);
        b.numbers(0, 2, 13);
        wrong(b, 0, 0, -4);
        b.write(0, 3, 555);
        wrong(b, 0, 0, -4);
        long[] none = {2, 20, 100, 200, 1100, -1, 12, 21, 99, 9, Long.MAX_VALUE, Long.MIN_VALUE, 1L << 32, -100};
        for (long v : none) {
            Told.tray(b, 0, 3, 1, v);
            wrong(b, 0, 0, -3);
        }
        b.numbers(0, 2, 12);
        due("twelve", b.shoes(0, 0), 2);
        Told.tray(b, 0, 2, 11);
        due("one", b.shoes(0, 0), 4);
        b.shut(0);
        due("shut or not", b.shoes(0, 0), 4);
    }

    private static void wrong(BackBridge b, int tray, int p, int code) {
        due("shoes", b.shoes(tray, p), code);
        due("sure", b.sure(tray, p), code);
        due("ask", b.ask(tray, p), code);
    }

    private static void dry(BackBridge b, int place, long above, long below) {
        due("above, to " + place, b.dry(0, place, 0), above);
        due("below, to " + place, b.dry(0, place, 1), below);
    }

    private static void drying() {
        BackBridge b = Told.of("places 6;road 0 to 1 days 1 flood 5;road 1 to 2 days 1 flood 4;road 2 to 3 days 1;"
                + "road 3 to 4 days 1 flood 10;person at 0;");
        dry(b, 0, 1, 1);
        dry(b, 1, 1, 2);
        dry(b, 2, 3, 10);
        dry(b, 3, 3, 10);
        dry(b, 4, 0, 1);
        due("no way", b.dry(0, 5, 0), -1);
        due("no way", b.dry(0, 5, 1), -1);
        due("no what", b.dry(0, 5, 2), -2);
        due("no what", b.dry(0, 1, -1), -2);
        due("nobody", b.dry(1, 1, 0), -2);
        due("nobody", b.dry(-1, 1, 0), -2);
        due("nowhere", b.dry(0, 6, 0), -2);
        due("nowhere", b.dry(0, -1, 0), -2);
        BackBridge c = Told.of("places 4;road 0 to 1 days 1 flood 1;road 0 to 2 days 1 flood 2;"
                + "road 0 to 3 days 1 bridge flood 3;person at 0;lets:seen>2;");
        dry(c, 3, 9 * 8 * 7 / 8, 1000 / 8);
        BackBridge d = Told.of("places 2;road 0 to 1 days 1 flood 8;road 0 to 1 days 2;person at 0;");
        dry(d, 1, 1, 5);
        d.shut(0);
        dry(d, 1, 1, 1);
    }

    private static void dryingMuch() {
        BackBridge b = Told.of("places 6;road 0 to 1 days 1 flood 1;road 1 to 2 days 1 flood 1;road 2 to 3 days 1 flood 1;"
                + "road 3 to 4 days 1 flood 1;road 4 to 5 days 1 flood 1;person at 0;");
        dry(b, 5, 59049, 100000);
        BackBridge c = Told.of("places 6;road 0 to 1 days 1 flood 5;road 1 to 2 days 1 flood 5;road 2 to 3 days 1 flood 5;"
                + "road 3 to 4 days 1 flood 5;road 4 to 5 days 1 flood 5;person at 0;");
        dry(c, 5, 1, 32);
        BackBridge d = Told.of("places 6;road 0 to 1 days 1 flood 8;road 1 to 2 days 1 flood 6;road 2 to 3 days 1 flood 10;"
                + "road 3 to 4 days 1 flood 5;person at 0;");
        dry(d, 2, 2, 25);
        dry(d, 4, 0, 1);
    }

    private static void safest() {
        BackBridge b = Told.of("places 5;road 0 to 1 days 1 flood 5;road 0 to 2 days 1 flood 2;road 2 to 3 days 1 flood 3;"
                + "person at 0;person at 4;person at 2;");
        due("likeliest", b.safest(0), 2);
        due("nowhere to go", b.safest(1), -1);
        due("from elsewhere", b.safest(2), 0);
        due("nobody", b.safest(3), -2);
        due("nobody", b.safest(-1), -2);
        BackBridge c = Told.of("places 4;road 3 to 1 days 1 flood 5;road 3 to 2 days 1 flood 5;road 3 to 0 days 1 flood 6;"
                + "person at 3;");
        due("the first of like ones", c.safest(0), 1);
        BackBridge d = Told.of("places 3;road 0 to 2 days 1 flood 10;person at 0;");
        due("never dry, but the only one", d.safest(0), 2);
        BackBridge e = Told.of("places 3;road 0 to 1 days 1 flood 2;road 1 to 2 days 1;person at 0;");
        due("like fractions", e.safest(0), 1);
    }

    private static void trays() {
        BackBridge b = new BackBridge();
        due("missing", b.write(0, 0, 1), -6);
        due("no tray", b.write(4, 0, 1), -2);
        due("no tray", b.write(-1, 0, 1), -2);
        due("numbers", b.numbers(0, 2, 3), 0);
        due("write", b.write(0, 2, 7), 7);
        due("no such number", b.write(0, 3, 7), -7);
        due("no such number", b.write(0, -1, 7), -7);
        due("no tray", b.numbers(4, 0, 0), -2);
        due("no tray", b.numbers(-1, 0, 0), -2);
        due("no sort", b.numbers(0, 4, 0), -2);
        due("no sort, too many", b.numbers(0, -1, 99), -2);
        due("too many", b.numbers(0, 0, 41), -3);
        due("below none", b.numbers(0, 0, -1), -3);
        due("the tray stays", b.write(0, 2, 70000), 70000);
        due("forty", b.numbers(3, 0, 40), 0);
        due("the last", b.write(3, 39, 5), 5);
        due("behind it", b.write(3, 40, 5), -7);
        due("none at all", b.numbers(0, 3, 0), 0);
        due("no number", b.write(0, 0, 1), -7);
        BackBridge c = Told.of("places 2;road 0 to 1 days 1;person at 0;");
        Told.tray(c, 0, 2, 0, 0, 2000);
        due("numbers again", c.numbers(0, 2, 3), 0);
        due("all are 0", c.judge(0, 3), 0);
        due("go three times", c.perform(0), 3);
    }

    private static void sorts() {
        BackBridge b = new BackBridge();
        long v = 0x123456789abcdef0L;
        b.numbers(0, 0, 1);
        b.numbers(1, 1, 1);
        b.numbers(2, 2, 1);
        b.numbers(3, 3, 1);
        due("8 bits", b.write(0, 0, v), (byte) v);
        due("16 bits", b.write(1, 0, v), (short) v);
        due("32 bits", b.write(2, 0, v), (int) v);
        due("64 bits", b.write(3, 0, v), v);
        due("8 bits", b.write(0, 0, 127), 127);
        due("8 bits", b.write(0, 0, 128), -128);
        due("8 bits", b.write(0, 0, 255), -1);
        due("16 bits", b.write(1, 0, 32768), -32768);
        due("32 bits", b.write(2, 0, 1L << 31), -(1L << 31));
        due("64 bits", b.write(3, 0, Long.MIN_VALUE), Long.MIN_VALUE);
    }

    private static void listing() {
        BackBridge b = Told.of("places 5;road 0 to 1 days 1;road 1 to 2 days 1;road 2 to 3 days 1;person at 4;"
                + "person at 0;");
        due("missing", b.lists(0, 1, 3), -6);
        due("no tray", b.lists(4, 1, 3), -2);
        due("no tray", b.lists(-1, 1, 3), -2);
        due("nobody, missing", b.lists(0, 2, 3), -2);
        due("nowhere, missing", b.lists(0, 1, 5), -2);
        due("missing ahead of no way", b.lists(0, 1, 4), -6);
        Told.tray(b, 0, 2, 9, 8, 7, 2001, -1);
        due("no way", b.lists(0, 1, 4), -5);
        due("three roads", b.lists(0, 1, 3), 3);
        due("the rest stays", b.judge(0, 0), -1);
        due("it goes, forges, waits", b.perform(0), 5);
        due("place", b.person(1, 0), 3);
        due("papers", b.person(1, 2), 1);
        due("day", b.person(1, 1), 7);
        due("where it is", b.lists(0, 1, 3), 0);
        Told.tray(b, 1, 2, 3000, 3001);
        due("as far as it has places", b.lists(1, 1, 0), 2);
        due("perform", b.perform(1), 2);
        due("place", b.person(1, 0), 1);
        BackBridge c = Told.of("places 2;road 0 to 1 days 1;person at 0;person at 0;person at 0;");
        c.numbers(0, 0, 1);
        due("cut to 8 bits", c.lists(0, 2, 1), 1);
        due("200 is -56", c.judge(0, 1), 1);
        c.numbers(1, 0, 0);
        due("no places", c.lists(1, 0, 1), 0);
    }

    private static void images() {
        BackBridge b = Told.of("places 3;road 0 to 1 days 1;road 1 to 2 days 1;person at 0 to 1 by 5;");
        due("none was made", b.restore(0), -5);
        due("no image", b.image(2), -2);
        due("no image", b.image(-1), -2);
        due("no image", b.restore(2), -2);
        due("no image", b.restore(-1), -2);
        b.go(0, 0);
        b.shut(1);
        due("image", b.image(0), 0);
        due("undo stays", b.count(8), 2);
        due("none of the other one", b.restore(1), -5);
        b.days(9);
        b.shut(1);
        b.go(0, 0);
        b.forge(0);
        due("restore", b.restore(0), 0);
        due("place", b.person(0, 0), 1);
        due("day", b.person(0, 1), 1);
        due("papers", b.person(0, 2), 0);
        due("done", b.person(0, 7), 1);
        due("shut", b.count(4), 2);
        due("nothing can be undone", b.undo(1), -3);
        b.days(1);
        due("restore again", b.restore(0), 0);
        due("day", b.person(0, 1), 1);
        b.undo(1);
        b.days(3);
        due("image in place of it", b.image(0), 0);
        b.days(3);
        b.restore(0);
        due("day", b.person(0, 1), 4);
    }

    private static void imagesOfLands() {
        BackBridge b = Told.of("places 3;road 0 to 1 days 7 bridge flood 2;person at 0 papers 3 born 1;takes:2;");
        b.image(1);
        Told.tray(b, 0, 1, 0, -1);
        due("another land", Told.land(b, "places 4;person at 3;person at 3;lets:0=1;"), 4);
        b.image(0);
        due("a faulty one", Told.land(b, "places 9;"), -33);
        Told.feed(b, "places 2;");
        due("restore", b.restore(1), 0);
        due("the tape stays", b.count(9), 20);
        due("the fault stays", b.fault(0), 3);
        due("places", b.count(0), 3);
        due("people", b.count(2), 1);
        due("lines", b.count(10), 4);
        due("bridge", b.road(0, 3), 1);
        due("flood", b.road(0, 4), 2);
        due("law", b.takes(0, 0), 2);
        due("born", b.person(0, 4), 1);
        due("the tray stays", b.perform(0), 2);
        due("papers", b.person(0, 2), 1);
        due("restore the other", b.restore(0), 0);
        due("people", b.count(2), 2);
        due("roads", b.count(1), 0);
        due("lines", b.count(10), 4);
        due("restore", b.restore(1), 0);
        due("as it was", b.person(0, 2), 3);
        due("why", b.why(0, 0), 0);
        due("the tape is read", b.land(9), 1);
        Told.land(b, "places 3;road 0 to 1 days 7 bridge flood 2;person at 0 papers 3 born 1;lets:been=0;");
        due("another law", b.why(0, 0), 4);
        due("restore", b.restore(1), 0);
        due("its law again", b.why(0, 0), 0);
    }

    private static void counts() {
        BackBridge b = Told.of("places 5;road 0 to 1 days 1;road 0 to 1 days 1 bridge;road 0 to 1 days 1 bridge;"
                + "person at 0 papers 4 to 0 by 0;person at 1 papers 9 to 4 by 1;person at 2 papers 1;");
        b.shut(0);
        b.shut(2);
        b.feed(1, 2, 3, 4, 5);
        int[] want = {5, 3, 3, 6, 5, 2, 1, 14, 2, 20, 7};
        for (int what = 0; what < want.length; what++) {
            due("count " + what, b.count(what), want[what]);
        }
        due("count 11", b.count(11), -1);
        due("count -1", b.count(-1), -1);
        due("count far off", b.count(Integer.MIN_VALUE), -1);
    }
}
