import java.util.Random;

/** Random runs of calls, each answer compared with the model's. */
public final class ModelTest {
    private static final int RUNS = 260;
    private static final int CALLS = 300;

    private final Random random;
    private final Texts texts;
    private final BackBridge b = new BackBridge();
    private final Model m = new Model();
    private final StringBuilder told = new StringBuilder();

    private ModelTest(long seed) {
        random = new Random(seed);
        texts = new Texts(random);
    }

    public static void main(String[] args) {
        int runs = args.length > 0 ? Integer.parseInt(args[0]) : RUNS;
        int first = args.length > 1 ? Integer.parseInt(args[1]) : 0;
        for (int run = first; run < first + runs && Told.wrongs() == 0; run++) {
            ModelTest test = new ModelTest(run);
            test.run();
            if (Told.wrongs() > 0) {
                System.out.println("run " + run + ":\n" + test.told);
            }
        }
        Told.end();
    }

    private int any(int below) {
        return random.nextInt(12) == 0 ? random.nextInt(below + 4) - 2 : random.nextInt(below);
    }

    private int p() {
        return any(Math.max(1, m.now.people.size()));
    }

    private int r() {
        return any(Math.max(1, m.land.roads.size()));
    }

    private int place() {
        return any(m.land.places);
    }

    private void read(String text) {
        for (int i = 0; i < text.length(); i += 20) {
            int[] v = new int[5];
            for (int k = 0; k < 20; k++) {
                v[k / 4] = v[k / 4] << 8 | (i + k < text.length() ? text.charAt(i + k) : random.nextInt(2) * 59);
            }
            due("feed", b.feed(v[0], v[1], v[2], v[3], v[4]), m.feed(v));
        }
        int n = random.nextInt(30) == 0 ? text.length() + 21 : text.length();
        told.append(text).append('\n');
        due("land", b.land(n), m.land(n));
        due("fault 0", b.fault(0), m.fault(0));
        due("fault 1", b.fault(1), m.fault(1));
    }

    private void due(String call, long got, long want) {
        told.append(call).append(" = ").append(want).append('\n');
        Told.due(call, got, want);
    }

    private void run() {
        read(texts.land());
        for (int i = 0; i < CALLS && Told.wrongs() == 0; i++) {
            int kind = random.nextInt(60);
            if (kind < 10) {
                tell(kind);
            } else if (kind < 24) {
                act(kind);
            } else {
                wonder(kind);
            }
            compareAll();
        }
    }

    private void compareAll() {
        for (int what = 0; what <= 10; what++) {
            Told.due("count " + what, b.count(what), m.count(what));
        }
        for (int p = 0; p < m.now.people.size(); p++) {
            for (int what = 0; what <= 8; what++) {
                Told.due("person " + p + " " + what, b.person(p, what), m.person(p, what));
            }
        }
        for (int r = 0; r < m.land.roads.size(); r++) {
            for (int what = 0; what <= 6; what++) {
                Told.due("road " + r + " " + what, b.road(r, what), m.road(r, what));
            }
        }
    }

    private void tell(int kind) {
        int i = any(2);
        int tray = any(4);
        switch (kind) {
            case 0:
                read(random.nextInt(3) == 0 ? texts.land() : texts.spoiled());
                break;
            case 1:
                due("image " + i, b.image(i), m.image(i));
                break;
            case 2:
                if (random.nextInt(4) == 0) {
                    due("restore " + i, b.restore(i), m.restore(i));
                }
                break;
            case 3:
                int sort = random.nextInt(3) > 0 ? 2 : any(4);
                int n = random.nextInt(4) == 0 ? any(41) : random.nextInt(8);
                due("numbers " + tray + " " + sort + " " + n, b.numbers(tray, sort, n), m.numbers(tray, sort, n));
                break;
            case 4:
            case 5:
                fill(tray);
                break;
            case 6:
                int p = p();
                int place = place();
                due("lists " + tray + " " + p + " " + place, b.lists(tray, p, place), m.lists(tray, p, place));
                break;
            case 7:
                due("judge 0", b.judge(tray, 0), m.judge(tray, 0));
                due("judge 1", b.judge(tray, 1), m.judge(tray, 1));
                due("judge 2", b.judge(tray, 2), m.judge(tray, 2));
                due("judge 3", b.judge(tray, 3), m.judge(tray, 3));
                break;
            case 8:
                due("perform " + tray, b.perform(tray), m.perform(tray));
                break;
            default:
                int what = any(4);
                due("judge " + tray + " " + what, b.judge(tray, what), m.judge(tray, what));
                break;
        }
    }

    private long number() {
        switch (random.nextInt(9)) {
            case 0:
                return -1;
            case 1:
                return 1000 + 100 * random.nextInt(6) + 10 * random.nextInt(6) + random.nextInt(4);
            case 2:
                return 2000 + random.nextInt(7);
            case 3:
                return 3000 + random.nextInt(14);
            case 4:
                return random.nextInt(5000) - 500;
            case 5:
                return random.nextLong();
            default:
                return 100 * p() + r();
        }
    }

    private void fill(int tray) {
        if (tray < 0 || tray > 3 || m.trays[tray] == null || random.nextInt(8) == 0) {
            int i = any(8);
            long v = number();
            due("write " + tray + " " + i + " " + v, b.write(tray, i, v), m.write(tray, i, v));
            return;
        }
        for (int i = 0; i < m.trays[tray].length && i < 12; i++) {
            long v = number();
            due("write " + tray + " " + i + " " + v, b.write(tray, i, v), m.write(tray, i, v));
        }
    }

    private void act(int kind) {
        int p = p();
        int q = p();
        int r = r();
        int n = any(5);
        switch (kind) {
            case 10:
            case 11:
            case 12:
            case 13:
            case 14:
                due("go " + p + " " + r, b.go(p, r), m.go(p, r));
                break;
            case 15:
            case 16:
                due("give " + p + " " + q + " " + n, b.give(p, q, n), m.give(p, q, n));
                break;
            case 17:
                due("forge " + p, b.forge(p), m.forge(p));
                break;
            case 18:
                due("shut " + r, b.shut(r), m.shut(r));
                break;
            case 19:
                due("days " + n, b.days(n), m.days(n));
                break;
            case 20:
            case 21:
                due("undo " + n, b.undo(n), m.undo(n));
                break;
            case 22:
                int seed = random.nextInt();
                int times = random.nextInt(3) == 0 ? any(42) : 1 + random.nextInt(5);
                due("year " + seed + " " + times, b.year(seed, times), m.year(seed, times));
                break;
            default:
                due("days 99", b.days(99), m.days(99));
                due("undo 1", b.undo(1), m.undo(1));
                break;
        }
    }

    private void wonder(int kind) {
        int p = p();
        int q = p();
        int place = place();
        int i = any(6);
        String of = " " + p + " " + place;
        switch (kind) {
            case 24, 25 -> {
                int r = r();
                due("why " + p + " " + r, b.why(p, r), m.nobody(p) ? 1 : m.why(m.now, p, r));
                due("takes " + p + " " + r, b.takes(p, r), m.takes(p, r));
            }
            case 26, 27 -> due("soonest" + of, b.soonest(p, place), m.soonest(p, place));
            case 28, 29, 30 -> {
                for (int k = -1; k < 9; k++) {
                    due("way" + of + " " + k, b.way(p, place, k), m.way(p, place, k));
                }
            }
            case 31 -> due("left" + of, b.left(p, place), m.left(p, place));
            case 32 -> due("reach " + p, b.reach(p), m.reach(p));
            case 33, 34 -> {
                int n = any(10);
                due("ways" + of + " " + n, b.ways(p, place, n), m.ways(p, place, n));
            }
            case 35 -> due("needed" + of, b.needed(p, place), m.needed(p, place));
            case 36 -> due("proofs" + of, b.proofs(p, place), m.proofs(p, place));
            case 37 -> due("waives" + of, b.waives(p, place), m.waives(p, place));
            case 38 -> due("inTime", b.inTime(), m.inTime(null));
            case 39 -> due("spare " + p, b.spare(p), m.spare(p));
            case 40, 41 -> due("helped", b.helped(), m.helped());
            case 42 -> due("worst", b.worst(), m.worst());
            case 43, 44 -> {
                due("loophole " + p, b.loophole(p), m.loophole(p));
                for (int k = -1; k < 7; k++) {
                    due("loopWay " + p + " " + k, b.loopWay(p, k), m.loopWay(p, k));
                }
            }
            case 45, 46 -> due("round " + p, b.round(p), m.round(p));
            case 47 -> due("crosses " + p, b.crosses(p), m.crosses(p));
            case 48, 49 -> {
                due("meet " + p + " " + q, b.meet(p, q), m.meet(p, q, 0));
                due("meetAt " + p + " " + q, b.meetAt(p, q), m.meet(p, q, 1));
            }
            case 50, 51, 52, 53 -> askAll(p);
            case 54, 55 -> {
                due("dry 0" + of, b.dry(p, place, 0), m.dry(p, place, 0));
                due("dry 1" + of, b.dry(p, place, 1), m.dry(p, place, 1));
                due("dry" + of + " " + i, b.dry(p, place, i), m.dry(p, place, i));
            }
            case 56 -> due("safest " + p, b.safest(p), m.safest(p));
            default -> due("fault " + i, b.fault(i), m.fault(i));
        }
    }

    private void askAll(int p) {
        int tray = any(4);
        if (tray >= 0 && tray < 4 && random.nextInt(5) > 0) {
            int n = 1 + random.nextInt(3);
            b.numbers(tray, 1, n);
            m.numbers(tray, 1, n);
            for (int i = 0; i < n; i++) {
                int r = r();
                for (int k = 0; k < 12 && m.bridges() != 0 && (m.bridges() >> r & 1) == 0 && n != 2; k++) {
                    r = random.nextInt(m.land.roads.size());
                }
                long v = 100L * r + 10 * any(2) + any(2);
                due("write " + tray + " " + i + " " + v, b.write(tray, i, v), m.write(tray, i, v));
            }
        }
        due("shoes " + tray + " " + p, b.shoes(tray, p), m.shoes(tray, p));
        due("sure " + tray + " " + p, b.sure(tray, p), m.sure(tray, p));
        due("ask " + tray + " " + p, b.ask(tray, p), m.ask(tray, p));
    }
}
