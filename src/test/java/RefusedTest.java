import java.util.ArrayList;
import java.util.List;

/**
 * "Refused calls answer by a code and change nothing": each refusal that the document names, by its code, and the whole
 * object behind it, compared with one of which the call was not asked. "(Of several that which the call tells first; all
 * these ahead of NONE.)": calls for which several refusals hold at once.
 */
public final class RefusedTest {
    private static final int LOW = Integer.MIN_VALUE;
    private static final int HIGH = Integer.MAX_VALUE;

    interface Call {
        long of(BackBridge b);
    }

    interface Make {
        BackBridge one();
    }

    private final Make make;
    private final List<String> parts = new ArrayList<>();

    private RefusedTest(Make make) {
        this.make = make;
        for (int part = 0; part < Seen.PARTS; part++) {
            parts.add(Seen.part(make.one(), part));
        }
    }

    public static void main(String[] args) {
        RefusedTest some = new RefusedTest(RefusedTest::midway);
        some.theLand();
        some.deeds();
        some.traysOfDeeds();
        some.ways();
        some.people();
        some.answers();
        some.trays();
        some.images();
        some.severalAtOnce();
        some.aheadOfNone();
        some.asking();
        new RefusedTest(RefusedTest::shutBridges).shutAheadOfTheLaw();
        new RefusedTest(RefusedTest::openBridges).lawAheadOfPapers();
        new RefusedTest(RefusedTest::full).fullOnes();
        new RefusedTest(BackBridge::new).nothingThere();
        Told.end();
    }

    /**
     * An object with a past of four calls, an image, a fault, a tape, trays: 0 of deeds, 1 of answers, 2 empty, 3 MISSING.
     * People: 0 has an errand, 1 has nine papers and no errand, 2 has no way to its errand, 3 has done its errand.
     */
    private static BackBridge midway() {
        BackBridge b = Told.of("places 4;road 0 to 1 days 2 bridge;road 1 to 2 days 3;road 2 to 0 days 9 flood 5;"
                + "road 2 to 3 days 1 bridge;person at 0 papers 2 born 1 to 2 by 50;person at 0 papers 9;"
                + "person at 3 papers 1 to 0 by 9;person at 3 to 3 by 0;lets:been=1 or who=3;takes:1;");
        b.days(1);
        b.image(0);
        b.give(1, 0, 1);
        b.forge(1);
        b.shut(2);
        Told.land(b, "places 7;");
        Told.feed(b, "places 3;person at 2;road 0 to 2 days 4;");
        Told.tray(b, 0, 1, 0, 1, -1, 1231, 2003, 3001);
        Told.tray(b, 1, 2, 1, 300);
        b.numbers(2, 3, 0);
        return b;
    }

    /** An object with as much of all as there can be. */
    private static BackBridge full() {
        BackBridge b = Told.of("places 6;" + Told.times(8, "road 0 to 1 days 1;")
                + Told.times(4, "road 1 to 2 days 2 bridge;") + Told.times(6, "person at 0 papers 9 to 5 by 0;"));
        for (int r = 0; r < 12; r++) {
            b.shut(r);
        }
        b.image(0);
        b.image(1);
        for (int i = 0; i < 45; i++) {
            b.feed(0x706c6163, 0x65732034, 0x3b202020, 0x20202020, i == 0 ? 0x20202020 : 0x2020207e);
        }
        for (int tray = 0; tray < 3; tray++) {
            Told.tray(b, tray, tray, 100, -1);
        }
        b.numbers(3, 3, 40);
        for (int i = 0; i < 40; i++) {
            b.write(3, i, i % 2 == 0 ? -1 : 3000 + i % 12);
        }
        return b;
    }

    private void unchanged(String name, Call call) {
        for (int part = 0; part < Seen.PARTS; part++) {
            BackBridge b = make.one();
            call.of(b);
            Told.due("part " + part + " changed by " + name, Seen.part(b, part).equals(parts.get(part)) ? 0 : 1, 0);
        }
    }

    private void refused(int code, String name, Call call) {
        Told.due(name, call.of(make.one()), code);
        unchanged(name, call);
    }

    // ---- the land

    private void theLand() {
        refused(-3, "land below 0", b -> b.land(-1));
        refused(-3, "land of more than there is", b -> b.land(41));
        refused(-3, "land far below 0", b -> b.land(LOW));
        refused(-3, "land of far more", b -> b.land(HIGH));
        for (int none : new int[] {-1, 4, LOW, HIGH}) {
            refused(-2, "person " + none, b -> b.person(none, 0));
            refused(-2, "road " + none, b -> b.road(none, 0));
            refused(-2, "takes of nobody", b -> b.takes(none, 0));
            refused(-2, "takes of no road", b -> b.takes(0, none));
            refused(1, "why of nobody", b -> b.why(none, 0));
            refused(1, "why of no road", b -> b.why(0, none));
        }
        refused(-2, "person, what 8", b -> b.person(0, 8));
        refused(-2, "person, what -1", b -> b.person(0, -1));
        refused(-2, "road, what 6", b -> b.road(0, 6));
        refused(-2, "road, what -1", b -> b.road(0, -1));
        refused(-5, "takes elsewhere", b -> b.takes(0, 1));
        refused(-1, "fault 2", b -> b.fault(2));
        refused(-1, "fault -1", b -> b.fault(-1));
        refused(-1, "count 11", b -> b.count(11));
        refused(-1, "count -1", b -> b.count(-1));
    }

    // ---- deeds

    private void deeds() {
        for (int none : new int[] {-1, 4, LOW, HIGH}) {
            refused(-11, "go of nobody", b -> b.go(none, 0));
            refused(-11, "go along no road", b -> b.go(0, none));
            refused(-11, "give of nobody", b -> b.give(none, 0, 1));
            refused(-11, "give to nobody", b -> b.give(0, none, 1));
            refused(-11, "forge of nobody", b -> b.forge(none));
            refused(-11, "shut of no road", b -> b.shut(none));
        }
        refused(-12, "go from elsewhere", b -> b.go(0, 1));
        refused(-13, "go along a shut one", b -> b.go(0, 2));
        refused(-14, "go against the law", b -> b.go(1, 0));
        refused(-15, "go with too few papers", b -> b.go(3, 3));
        refused(-11, "give to itself", b -> b.give(0, 0, 1));
        refused(-11, "give none", b -> b.give(2, 3, 0));
        refused(-11, "give ten", b -> b.give(2, 3, 10));
        refused(-11, "give below none", b -> b.give(2, 3, -1));
        refused(-12, "give elsewhere", b -> b.give(0, 2, 1));
        refused(-12, "give to who has nine", b -> b.give(0, 1, 1));
        refused(-12, "give more than it has", b -> b.give(2, 3, 2));
        refused(-12, "give so that it would have ten", b -> b.give(1, 0, 7));
        refused(-12, "forge a tenth", b -> b.forge(1));
        for (int none : new int[] {0, -1, 100, LOW, HIGH}) {
            refused(-3, "days " + none, b -> b.days(none));
        }
        for (int none : new int[] {0, -1, 5, 10, 11, LOW, HIGH}) {
            refused(-3, "undo " + none, b -> b.undo(none));
        }
    }

    private void traysOfDeeds() {
        for (int none : new int[] {-1, 4, LOW, HIGH}) {
            refused(-2, "judge no tray", b -> b.judge(none, 0));
            refused(-2, "judge no what", b -> b.judge(0, none));
            refused(-2, "perform no tray", b -> b.perform(none));
        }
        for (int what = 0; what < 4; what++) {
            int asked = what;
            refused(-6, "judge a missing one", b -> b.judge(3, asked));
        }
        refused(-6, "perform a missing one", b -> b.perform(3));
        refused(0, "perform an empty one", b -> b.perform(2));
        refused(0, "perform one of which the first can't be", b -> b.perform(1));
        for (int none : new int[] {0, -1, 41, LOW, HIGH}) {
            refused(-3, "year of " + none, b -> b.year(1, none));
        }
    }

    // ---- ways

    private void ways() {
        int[][] wrong = {{-1, 0}, {4, 0}, {0, -1}, {0, 4}, {LOW, 0}, {HIGH, 0}, {0, LOW}, {0, HIGH}, {4, 4}};
        for (int[] w : wrong) {
            refused(-2, "soonest", b -> b.soonest(w[0], w[1]));
            refused(-2, "way", b -> b.way(w[0], w[1], 0));
            refused(-2, "left", b -> b.left(w[0], w[1]));
            refused(-2, "ways", b -> b.ways(w[0], w[1], 0));
            refused(-2, "needed", b -> b.needed(w[0], w[1]));
            refused(-2, "proofs", b -> b.proofs(w[0], w[1]));
            refused(-2, "waives", b -> b.waives(w[0], w[1]));
            refused(-2, "dry", b -> b.dry(w[0], w[1], 0));
            refused(-2, "lists", b -> b.lists(0, w[0], w[1]));
        }
        refused(-3, "way below 0", b -> b.way(0, 2, -1));
        refused(-3, "way far below 0", b -> b.way(0, 2, LOW));
        for (int none : new int[] {-1, 10, LOW, HIGH}) {
            refused(-3, "ways of " + none, b -> b.ways(0, 2, none));
        }
        for (int none : new int[] {-1, 2, LOW, HIGH}) {
            refused(-2, "dry, what " + none, b -> b.dry(0, 2, none));
        }
    }

    private void people() {
        for (int none : new int[] {-1, 4, LOW, HIGH}) {
            refused(-2, "reach", b -> b.reach(none));
            refused(-2, "spare", b -> b.spare(none));
            refused(-2, "loophole", b -> b.loophole(none));
            refused(-2, "loopWay", b -> b.loopWay(none, 0));
            refused(-2, "round", b -> b.round(none));
            refused(-2, "crosses", b -> b.crosses(none));
            refused(-2, "safest", b -> b.safest(none));
            refused(-2, "meet", b -> b.meet(none, 0));
            refused(-2, "meet", b -> b.meet(0, none));
            refused(-2, "meetAt", b -> b.meetAt(none, 0));
            refused(-2, "meetAt", b -> b.meetAt(0, none));
        }
        refused(-5, "spare of none", b -> b.spare(1));
        refused(-5, "spare of one done", b -> b.spare(3));
        refused(-3, "loopWay below 0", b -> b.loopWay(3, -1));
        refused(-3, "loopWay far below 0", b -> b.loopWay(3, LOW));
        refused(-2, "meet both one", b -> b.meet(1, 1));
        refused(-2, "meetAt both one", b -> b.meetAt(1, 1));
    }

    private void three(int code, String name, int tray, int p) {
        refused(code, "shoes, " + name, b -> b.shoes(tray, p));
        refused(code, "sure, " + name, b -> b.sure(tray, p));
        refused(code, "ask, " + name, b -> b.ask(tray, p));
    }

    private void answers() {
        for (int none : new int[] {-1, 4, LOW, HIGH}) {
            three(-2, "nobody", 1, none);
            three(-2, "no tray", none, 0);
        }
        three(-6, "missing", 3, 0);
        three(-4, "empty", 2, 0);
        three(-3, "deeds", 0, 0);
    }

    // ---- trays, images

    private void trays() {
        for (int none : new int[] {-1, 4, LOW, HIGH}) {
            refused(-2, "numbers of no tray", b -> b.numbers(none, 0, 1));
            refused(-2, "numbers of no sort", b -> b.numbers(0, none, 1));
            refused(-2, "write into no tray", b -> b.write(none, 0, 1));
            refused(-2, "lists into no tray", b -> b.lists(none, 0, 2));
        }
        for (int none : new int[] {-1, 41, LOW, HIGH}) {
            refused(-3, "so many numbers", b -> b.numbers(0, 0, none));
            refused(-3, "so many numbers of a missing one", b -> b.numbers(3, 0, none));
        }
        refused(-6, "write into a missing one", b -> b.write(3, 0, 1));
        refused(-7, "write into an empty one", b -> b.write(2, 0, 1));
        for (int none : new int[] {-1, 6, 39, 40, LOW, HIGH}) {
            refused(-7, "write number " + none, b -> b.write(0, none, 1));
        }
        refused(-6, "lists into a missing one", b -> b.lists(3, 0, 2));
        refused(-5, "lists no way", b -> b.lists(0, 2, 0));
        refused(0, "lists no roads", b -> b.lists(0, 0, 0));
        refused(0, "lists into an empty one", b -> b.lists(2, 0, 2));
    }

    private void images() {
        for (int none : new int[] {-1, 2, LOW, HIGH}) {
            refused(-2, "image " + none, b -> b.image(none));
            refused(-2, "restore " + none, b -> b.restore(none));
        }
        refused(-5, "restore what was not made", b -> b.restore(1));
    }

    // "Of several that which the call tells first"

    private void severalAtOnce() {
        refused(-2, "takes of nobody along a road elsewhere", b -> b.takes(4, 1));
        refused(1, "why of nobody, a road that is shut", b -> b.why(4, 2));
        refused(2, "why elsewhere and shut", b -> b.why(2, 2));
        refused(2, "why elsewhere and against the law", b -> b.why(2, 0));
        refused(-12, "go elsewhere along a shut one", b -> b.go(2, 2));
        refused(-11, "give nobody too many, elsewhere", b -> b.give(0, 9, 10));
        refused(-11, "give to itself more than it has", b -> b.give(0, 0, 9));
        refused(-11, "give ten elsewhere", b -> b.give(0, 2, 10));
        refused(-11, "give none elsewhere", b -> b.give(0, 2, 0));
        refused(-12, "give elsewhere more than it has", b -> b.give(0, 2, 9));
        refused(-2, "judge a missing one, no what", b -> b.judge(3, 4));
        refused(-2, "judge no tray, no what", b -> b.judge(4, -1));
        refused(-2, "way of nobody below 0", b -> b.way(4, 0, -1));
        refused(-2, "way to nowhere below 0", b -> b.way(0, 4, -1));
        refused(-2, "ways of nobody of ten", b -> b.ways(-1, 0, 10));
        refused(-2, "ways to nowhere of ten", b -> b.ways(0, -1, 10));
        refused(-2, "loopWay of nobody below 0", b -> b.loopWay(4, -1));
        three(-2, "nobody and no tray", 4, 4);
        three(-2, "nobody, missing", 3, 4);
        three(-2, "nobody, empty", 2, -1);
        three(-2, "nobody, none such", 0, 4);
        refused(-2, "numbers of no tray, too many", b -> b.numbers(4, 0, 41));
        refused(-2, "numbers of no sort, too many", b -> b.numbers(0, 4, 41));
        refused(-2, "numbers of no sort, below 0", b -> b.numbers(0, -1, -1));
        refused(-2, "write into no tray, no number", b -> b.write(4, -1, 1));
        refused(-6, "write into a missing one, no number", b -> b.write(3, -1, 1));
        refused(-6, "write into a missing one, no number", b -> b.write(3, 40, 1));
        refused(-2, "lists into a missing one, nobody", b -> b.lists(3, 4, 0));
        refused(-2, "lists into a missing one, to nowhere", b -> b.lists(3, 0, 4));
        refused(-6, "lists no way into a missing one", b -> b.lists(3, 2, 0));
        refused(-2, "restore none such, none made", b -> b.restore(2));
    }

    /** Bridges that are shut, which the law would not let over, or which take too many papers, or both. */
    private static BackBridge shutBridges() {
        BackBridge b = Told.of("places 3;road 0 to 1 days 1 bridge;road 0 to 2 days 1 bridge;person at 0;"
                + "lets:to=1;takes:1;");
        b.shut(0);
        b.shut(1);
        return b;
    }

    private static BackBridge openBridges() {
        BackBridge b = shutBridges();
        b.undo(2);
        return b;
    }

    private void shutAheadOfTheLaw() {
        refused(3, "why shut, too few papers", b -> b.why(0, 0));
        refused(3, "why shut, against the law, too few papers", b -> b.why(0, 1));
        refused(-13, "go shut, too few papers", b -> b.go(0, 0));
        refused(-13, "go shut, against the law, too few papers", b -> b.go(0, 1));
    }

    private void lawAheadOfPapers() {
        refused(5, "why too few papers", b -> b.why(0, 0));
        refused(4, "why against the law, too few papers", b -> b.why(0, 1));
        refused(-15, "go too few papers", b -> b.go(0, 0));
        refused(-14, "go against the law, too few papers", b -> b.go(0, 1));
    }

    // "all these ahead of NONE"

    private void aheadOfNone() {
        refused(-3, "way that there is not, below 0", b -> b.way(2, 0, -1));
        refused(-2, "dry of no way, no what", b -> b.dry(2, 0, 2));
        refused(-3, "loopWay that can't be, below 0", b -> b.loopWay(1, -1));
        refused(-5, "spare of one done that has no way", b -> b.spare(3));
        refused(-2, "meet both one, with no way", b -> b.meet(2, 2));
        refused(-5, "lists of no way", b -> b.lists(0, 2, 1));
        BackBridge b = Told.of("places 2;road 0 to 1 days 1;person at 0;");
        Told.tray(b, 0, 2, 0);
        Told.due("ask without bridges", b.ask(0, 0), -3);
    }

    /** Calls that only ask. */
    private void asking() {
        for (int p = 0; p < 4; p++) {
            int q = p;
            unchanged("asking of one", b -> b.reach(q) + b.loophole(q) + b.loopWay(q, 0) + b.round(q) + b.crosses(q)
                    + b.safest(q) + b.meet(q, (q + 1) % 4) + b.meetAt(q, (q + 1) % 4) + b.spare(q) + b.shoes(1, q)
                    + b.sure(1, q) + b.ask(1, q));
            for (int to = 0; to < 4; to++) {
                int place = to;
                unchanged("asking of ways", b -> b.soonest(q, place) + b.way(q, place, 0) + b.left(q, place)
                        + b.ways(q, place, 9) + b.needed(q, place) + b.proofs(q, place) + b.waives(q, place)
                        + b.dry(q, place, 0) + b.dry(q, place, 1) + b.why(q, place) + b.takes(q, place));
            }
        }
        unchanged("asking of all", b -> b.inTime() + b.helped() + b.worst() + b.fault(0) + b.fault(1) + b.count(5)
                + b.person(0, 0) + b.road(0, 0));
        unchanged("judging", b -> b.judge(0, 0) + b.judge(0, 1) + b.judge(0, 2) + b.judge(0, 3) + b.judge(1, 0)
                + b.judge(2, 0));
    }

    // ---- full, and empty

    private void fullOnes() {
        refused(-5, "feed a full tape", b -> b.feed(1, 2, 3, 4, 5));
        refused(-3, "land of more than a full tape", b -> b.land(901));
        refused(-12, "forge a tenth", b -> b.forge(5));
        refused(-12, "give a tenth", b -> b.give(5, 0, 1));
        refused(-3, "undo eleven", b -> b.undo(11));
        refused(-13, "go along the last", b -> b.go(5, 7));
        refused(-12, "go from elsewhere", b -> b.go(5, 11));
        refused(-11, "go of a seventh", b -> b.go(6, 0));
        refused(-11, "go along a thirteenth", b -> b.go(0, 12));
        refused(-11, "shut a thirteenth", b -> b.shut(12));
        refused(-2, "to a seventh place", b -> b.soonest(0, 6));
        refused(-7, "write a 41st", b -> b.write(3, 40, 1));
        refused(-3, "41 numbers", b -> b.numbers(3, 3, 41));
        three(-4, "forty numbers", 3, 5);
        refused(-1, "no way", b -> b.soonest(5, 5));
        refused(-2, "image 2", b -> b.image(2));
    }

    private void nothingThere() {
        refused(-3, "land of 1", b -> b.land(1));
        refused(-11, "go", b -> b.go(0, 0));
        refused(-11, "give", b -> b.give(0, 1, 1));
        refused(-11, "forge", b -> b.forge(0));
        refused(-11, "shut", b -> b.shut(0));
        refused(-3, "undo", b -> b.undo(1));
        refused(-2, "soonest", b -> b.soonest(0, 0));
        refused(-2, "spare", b -> b.spare(0));
        refused(-2, "meet", b -> b.meet(0, 1));
        three(-2, "nobody, missing", 0, 0);
        refused(-6, "judge", b -> b.judge(0, 0));
        refused(-6, "perform", b -> b.perform(0));
        refused(-6, "write", b -> b.write(0, 0, 0));
        refused(-2, "lists", b -> b.lists(0, 0, 0));
        refused(-5, "restore", b -> b.restore(0));
        refused(0, "inTime", b -> b.inTime());
        refused(-1, "helped", b -> b.helped());
        refused(-1, "worst", b -> b.worst());
        for (int kind = 1; kind < 5; kind++) {
            int seed = seedOf(kind);
            refused(0, "a year of which none can be", b -> b.year(seed, 1));
        }
    }

    /** A seed whose first draw is a kind of deed. */
    private static int seedOf(int kind) {
        int seed = 1;
        while ((1103515245 * seed + 12345 >>> 16) % 5 != kind) {
            seed++;
        }
        return seed;
    }
}
