/** What tests share: the object under test, texts told to it, and a count of wrong answers. */
final class Told {
    private static int wrong;

    private Told() {
    }

    static void due(String what, long got, long want) {
        if (got != want) {
            wrong++;
            if (wrong <= 40) {
                System.out.println(what + " answered " + got + ", due is " + want);
            }
        }
    }

    static void end() {
        if (wrong > 0) {
            System.out.println(wrong + " wrong answers");
            System.exit(1);
        }
    }

    static int wrongs() {
        return wrong;
    }

    /** Feeds a text, its last row filled up with zeroes. */
    static void feed(BackBridge b, String text) {
        byte[] bytes = text.getBytes(java.nio.charset.StandardCharsets.ISO_8859_1);
        for (int i = 0; i < bytes.length; i += 20) {
            int[] v = new int[5];
            for (int k = 0; k < 20; k++) {
                int sign = i + k < bytes.length ? bytes[i + k] & 255 : 0;
                v[k / 4] = v[k / 4] << 8 | sign;
            }
            b.feed(v[0], v[1], v[2], v[3], v[4]);
        }
    }

    static int land(BackBridge b, String text) {
        feed(b, text);
        return b.land(text.length());
    }

    /** A new object that has read a text in which there must be no fault. */
    static BackBridge of(String text) {
        BackBridge b = new BackBridge();
        int lines = land(b, text);
        if (lines < 1) {
            due("land of " + text, lines, 1);
        }
        return b;
    }

    static void tray(BackBridge b, int tray, int sort, long... numbers) {
        due("numbers", b.numbers(tray, sort, numbers.length), 0);
        for (int i = 0; i < numbers.length; i++) {
            due("write " + numbers[i], b.write(tray, i, numbers[i]), numbers[i]);
        }
    }

    /** A text without a fault; the object that has read it. */
    static BackBridge fine(String text, int lines) {
        BackBridge b = new BackBridge();
        due("land of " + text, land(b, text), lines);
        due("lines of " + text, b.count(10), lines);
        due("fault of " + text, b.fault(0), 0);
        due("its place in " + text, b.fault(1), BackBridge.NONE);
        return b;
    }

    /** A faulty text, read behind one without a fault, all of which stays. */
    static void faulty(String text, int kind, int place) {
        BackBridge b = of("places 5;road 3 to 4 days 7 bridge;person at 3 papers 2 born 4;takes:2;");
        b.go(0, 0);
        b.shut(0);
        due("land of " + text, land(b, text), -30 - kind);
        due("fault of " + text, b.fault(0), kind);
        due("its place in " + text, b.fault(1), place);
        due("the tape behind " + text, b.count(9), 0);
        int[] counts = {5, 1, 1, 1, 1, 0, 0, 0, 2, 0, 4};
        for (int what = 0; what < counts.length; what++) {
            due("count " + what + " behind " + text, b.count(what), counts[what]);
        }
        due("place behind " + text, b.person(0, 0), 4);
        due("day behind " + text, b.person(0, 1), 7);
        due("undo behind " + text, b.undo(2), 0);
        due("the law behind " + text, b.takes(0, 0), 2);
    }

    static String times(int n, String text) {
        return text.repeat(Math.max(0, n));
    }
}
