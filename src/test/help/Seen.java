/**
 * What calls tell of an object, part by part, as a text; each part may use the object up. No part asks more than some 380
 * calls, so that an object that was made by 130 stays below the 512 that are promised.
 */
final class Seen {
    static final int PARTS = 5;

    private Seen() {
    }

    static String part(BackBridge b, int part) {
        StringBuilder s = new StringBuilder();
        switch (part) {
            case 0 -> world(b, s);
            case 1 -> trays(b, s);
            case 2 -> past(b, s);
            case 3 -> images(b, s);
            default -> tape(b, s);
        }
        return s.toString();
    }

    private static void tell(StringBuilder s, long answer) {
        s.append(answer).append(' ');
    }

    /** Who and what there is, and both laws. */
    private static void world(BackBridge b, StringBuilder s) {
        for (int what = 0; what <= 10; what++) {
            tell(s, b.count(what));
        }
        tell(s, b.fault(0));
        tell(s, b.fault(1));
        int people = b.count(2);
        int roads = b.count(1);
        for (int p = 0; p < people; p++) {
            for (int what = 0; what < 8; what++) {
                tell(s, b.person(p, what));
            }
        }
        for (int r = 0; r < roads; r++) {
            for (int what = 0; what < 6; what++) {
                tell(s, b.road(r, what));
            }
            for (int p = 0; p < people; p += Math.max(1, people - 1)) {
                tell(s, b.why(p, r));
                tell(s, b.takes(p, r));
            }
        }
    }

    private static void people(BackBridge b, StringBuilder s) {
        int people = b.count(2);
        for (int p = 0; p < people; p++) {
            for (int what : new int[] {0, 1, 2, 3, 7}) {
                tell(s, b.person(p, what));
            }
        }
        tell(s, b.count(4));
        tell(s, b.count(8));
    }

    /** Their numbers are told by what they do as deeds, as answers; their sizes and sorts by what they refuse and cut. */
    private static void trays(BackBridge b, StringBuilder s) {
        for (int tray = 0; tray < 4; tray++) {
            tell(s, b.shoes(tray, 0));
            tell(s, b.sure(tray, 0));
            for (int what = 0; what < 4; what++) {
                tell(s, b.judge(tray, what));
            }
            boolean more = true;
            for (int i = 0; i <= 40 && more; i++) {
                long cut = b.write(tray, i, 0x123456789abcdef0L);
                tell(s, cut);
                more = b.write(tray, i, -1) == -1;
                tell(s, b.judge(tray, 0));
                tell(s, b.judge(tray, 3));
            }
        }
    }

    private static void past(BackBridge b, StringBuilder s) {
        people(b, s);
        for (int left = b.count(8); left > 0; left--) {
            tell(s, b.undo(1));
            people(b, s);
        }
        tell(s, b.undo(1));
    }

    private static void images(BackBridge b, StringBuilder s) {
        for (int i = 0; i < 2; i++) {
            int answer = b.restore(i);
            tell(s, answer);
            if (answer == 0) {
                world(b, s);
            }
        }
    }

    private static void tape(BackBridge b, StringBuilder s) {
        tell(s, b.land(b.count(9)));
        world(b, s);
    }
}
