/** What tests share: the object under test, texts told to it, and a count of wrong answers. */
final class Told {
    private static int wrong;

    private Told() {
    }

    static void due(String what, long got, long want) {
        if (got != want) {
            wrong++;
            if (wrong <= 40) {
                System.out.println(what + " answered " + got + ", due is " + want);
            }
        }
    }

    static void end() {
        if (wrong > 0) {
            System.out.println(wrong + " wrong answers");
            System.exit(1);
        }
    }

    static int wrongs() {
        return wrong;
    }

    /** Feeds a text, its last row filled up with zeroes. */
    static void feed(BackBridge b, String text) {
        byte[] bytes = text.getBytes(java.nio.charset.StandardCharsets.ISO_8859_1);
        for (int i = 0; i < bytes.length; i += 20) {
            int[] v = new int[5];
            for (int k = 0; k < 20; k++) {
                int sign = i + k < bytes.length ? bytes[i + k] & 255 : 0;
                v[k / 4] = v[k / 4] << 8 | sign;
            }
            b.feed(v[0], v[1], v[2], v[3], v[4]);
        }
    }

    static int land(BackBridge b, String text) {
        feed(b, text);
        return b.land(text.length());
    }

    /** A new object that has read a text in which there must be no fault. */
    static BackBridge of(String text) {
        BackBridge b = new BackBridge();
        int lines = land(b, text);
        if (lines < 1) {
            due("land of " + text, lines, 1);
        }
        return b;
    }

    static void tray(BackBridge b, int tray, int sort, long... numbers) {
        due("numbers", b.numbers(tray, sort, numbers.length), 0);
        for (int i = 0; i < numbers.length; i++) {
            due("write " + numbers[i], b.write(tray, i, numbers[i]), numbers[i]);
        }
    }
}
