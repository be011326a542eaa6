import java.util.Random;

/** No call may throw, whatever its numbers; refused calls, and those that only ask, change nothing. */
public final class RobustTest {
    private static final int[] ODD = {0, 1, 2, 3, 4, 5, 6, 7, 9, 10, 11, 12, 13, 39, 40, 41, 63, 64, 99, 100, 899, 900,
        901, -1, -2, -3, -100, 1 << 16, 1 << 30, Integer.MAX_VALUE, Integer.MIN_VALUE, Integer.MIN_VALUE + 1};

    private final Random random;
    private final BackBridge b = new BackBridge();

    private RobustTest(long seed) {
        random = new Random(seed);
    }

    public static void main(String[] args) {
        for (int seed = 0; seed < 400; seed++) {
            new RobustTest(seed).run();
        }
        for (int face = 0; face < 45; face++) {
            everyOddNumber(face);
        }
        Told.end();
    }

    private int odd() {
        return random.nextInt(3) == 0 ? ODD[random.nextInt(ODD.length)] : random.nextInt(6);
    }

    private void run() {
        Texts texts = new Texts(random);
        for (int i = 0; i < 512; i++) {
            if (random.nextInt(60) == 0) {
                Told.land(b, random.nextInt(3) == 0 ? texts.spoiled() : texts.land());
                continue;
            }
            int face = random.nextInt(45);
            long before = changes(face) ? 0 : sum(b);
            long answer = call(b, face, new int[] {odd(), odd(), odd(), odd(), odd()});
            if (!changes(face)) {
                Told.due("state behind call " + face, sum(b), before);
            }
            if (answer < -34 && face != 40) {
                Told.due("answer of call " + face, answer, 0);
            }
        }
    }

    private static void everyOddNumber(int face) {
        BackBridge b = Told.of("places 6;road 0 to 1 days 1 bridge;road 1 to 2 days 1;person at 0 papers 3 to 1 by 5;"
                + "person at 0;lets:1=1;takes:papers*papers-8;");
        b.numbers(0, 2, 2);
        for (int x : ODD) {
            for (int y : ODD) {
                call(b, face, new int[] {x, y, 1, 1, 1});
                call(b, face, new int[] {0, x, y, 1, 1});
            }
        }
    }

    /** Calls that only ask. */
    private static boolean changes(int face) {
        return face < 2 || face >= 6 && face < 12 || face >= 13 && face < 15 || face >= 39 && face < 42 || face == 43;
    }

    private static long sum(BackBridge b) {
        long sum = 0;
        for (int what = 0; what <= 10; what++) {
            sum = sum * 31 + b.count(what);
        }
        for (int i = 0; i < 12; i++) {
            for (int what = 0; what < 8; what++) {
                sum = sum * 31 + b.person(i, what);
                sum = sum * 31 + b.road(i, what);
            }
        }
        for (int tray = 0; tray < 4; tray++) {
            for (int what = 0; what < 4; what++) {
                sum = sum * 31 + b.judge(tray, what);
            }
        }
        return sum * 31 * 31 + b.fault(0) * 31 + b.fault(1);
    }

    private static long call(BackBridge b, int face, int[] v) {
        return face < 23 ? callFirst(b, face, v) : callOther(b, face, v);
    }

    private static long callFirst(BackBridge b, int face, int[] v) {
        return switch (face) {
            case 0 -> b.feed(v[0], v[1], v[2], v[3], v[4]);
            case 1 -> b.land(v[0]);
            case 2 -> b.fault(v[0]);
            case 3 -> b.person(v[0], v[1]);
            case 4 -> b.road(v[0], v[1]);
            case 5 -> b.why(v[0], v[1]);
            case 6 -> b.go(v[0], v[1]);
            case 7 -> b.give(v[0], v[1], v[2]);
            case 8 -> b.forge(v[0]);
            case 9 -> b.shut(v[0]);
            case 10 -> b.days(v[0]);
            case 11 -> b.undo(v[0]);
            case 12 -> b.judge(v[0], v[1]);
            case 13 -> b.perform(v[0]);
            case 14 -> b.year(v[0], v[1]);
            case 15 -> b.takes(v[0], v[1]) > 1000000 ? -99 : 0;
            case 16 -> b.soonest(v[0], v[1]);
            case 17 -> b.way(v[0], v[1], v[2]);
            case 18 -> b.left(v[0], v[1]);
            case 19 -> b.reach(v[0]);
            case 20 -> b.ways(v[0], v[1], v[2]);
            case 21 -> b.needed(v[0], v[1]);
            default -> b.proofs(v[0], v[1]);
        };
    }

    private static long callOther(BackBridge b, int face, int[] v) {
        return switch (face) {
            case 23 -> b.waives(v[0], v[1]);
            case 24 -> b.inTime();
            case 25 -> b.spare(v[0]);
            case 26 -> b.helped();
            case 27 -> b.worst();
            case 28 -> b.loophole(v[0]);
            case 29 -> b.loopWay(v[0], v[1]);
            case 30 -> b.round(v[0]);
            case 31 -> b.crosses(v[0]);
            case 32 -> b.meet(v[0], v[1]);
            case 33 -> b.meetAt(v[0], v[1]);
            case 34 -> b.shoes(v[0], v[1]);
            case 35 -> b.sure(v[0], v[1]);
            case 36 -> b.ask(v[0], v[1]);
            case 37 -> b.dry(v[0], v[1], v[2]);
            case 38 -> b.safest(v[0]);
            case 39 -> b.numbers(v[0], v[1], v[2]);
            case 40 -> b.write(v[0], v[1], (long) v[2] * v[3]);
            case 41 -> b.lists(v[0], v[1], v[2]);
            case 42 -> b.image(v[0]);
            case 43 -> b.restore(v[0]);
            default -> b.count(v[0]);
        };
    }
}
