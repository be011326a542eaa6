import java.util.ArrayList;
import java.util.Arrays;
import java.util.HashMap;
import java.util.HashSet;
import java.util.List;
import java.util.Map;
import java.util.PriorityQueue;
import java.util.Set;
import java.util.TreeMap;

/** The document told a second time, as plainly as can be: slow, with the whole library, for comparing. */
final class Model {
    static final class Fault extends RuntimeException {
        private static final long serialVersionUID = 1;
        final int kind;
        final int at;

        Fault(int kind, int at) {
            super(null, null, false, false);
            this.kind = kind;
            this.at = at;
        }
    }

    interface Num {
        long of(Map<String, Long> names);
    }

    static final class Road {
        int a;
        int b;
        int days;
        boolean bridge;
        int flood;
    }

    static final class Person implements Cloneable {
        int place;
        int day;
        int papers;
        int been;
        int born;
        int errand = -1;
        int by = -1;
        boolean done;

        Person copy() {
            try {
                return (Person) clone();
            } catch (CloneNotSupportedException e) {
                throw new IllegalStateException(e);
            }
        }
    }

    static final class State {
        List<Person> people = new ArrayList<>();
        Set<Integer> shut = new HashSet<>();

        State copy() {
            State s = new State();
            for (Person p : people) {
                s.people.add(p.copy());
            }
            s.shut.addAll(shut);
            return s;
        }
    }

    static final class Text {
        int places = 2;
        int lines;
        List<Road> roads = new ArrayList<>();
        List<Person> people = new ArrayList<>();
        Num lets;
        Num takes;
    }

    // ---- the text

    static final class Parser {
        final String text;
        int i;
        String token;
        int start;
        final Text land = new Text();

        Parser(String text) {
            this.text = text;
            step();
        }

        void step() {
            while (i < text.length() && (text.charAt(i) == 10 || text.charAt(i) == 32)) {
                i++;
            }
            start = i;
            if (i == text.length()) {
                token = "";
                return;
            }
            String rest = text.substring(i);
            for (String form : new String[] {"^[a-z]+", "^[0-9]+", "^[-;:+*()\\[\\]=<>]"}) {
                java.util.regex.Matcher m = java.util.regex.Pattern.compile(form).matcher(rest);
                if (m.find()) {
                    token = m.group();
                    if (token.matches("[0-9]{4,}")) {
                        token = "?";
                    }
                    i += m.group().length();
                    return;
                }
            }
            token = "?";
        }

        Fault fault(int kind) {
            return new Fault(token.equals("?") ? 1 : kind, start);
        }

        boolean at(String s) {
            return token.equals(s);
        }

        void want(String s) {
            if (!at(s)) {
                throw fault(2);
            }
            step();
        }

        int n(int least, int most) {
            return n(least, most, -1);
        }

        int n(int least, int most, int not) {
            if (!token.matches("[0-9]{1,3}")) {
                throw fault(2);
            }
            int v = Integer.parseInt(token);
            if (v < least || v > most || v == not) {
                throw fault(3);
            }
            step();
            return v;
        }

        Text parse() {
            want("places");
            land.places = n(2, 6);
            want(";");
            land.lines = 1;
            while (!at("")) {
                switch (token) {
                    case "road" -> road();
                    case "person" -> person();
                    case "lets" -> {
                        step();
                        want(":");
                        land.lets = truth(0);
                    }
                    case "takes" -> {
                        step();
                        want(":");
                        land.takes = sum(0);
                    }
                    default -> throw fault(2);
                }
                want(";");
                land.lines++;
            }
            return land;
        }

        void road() {
            if (land.roads.size() == 12) {
                throw fault(4);
            }
            step();
            Road r = new Road();
            r.a = n(0, land.places - 1);
            want("to");
            r.b = n(0, land.places - 1, r.a);
            want("days");
            r.days = n(1, 20);
            while (!at(";")) {
                if (at("bridge")) {
                    long others = land.roads.stream().filter(x -> x.bridge).count();
                    if (!r.bridge && others == 4) {
                        throw fault(4);
                    }
                    r.bridge = true;
                    step();
                } else {
                    want("flood");
                    r.flood = n(0, 10);
                }
            }
            land.roads.add(r);
        }

        void person() {
            if (land.people.size() == 6) {
                throw fault(4);
            }
            step();
            Person p = new Person();
            want("at");
            p.place = n(0, land.places - 1);
            p.born = p.place;
            while (!at(";")) {
                if (at("born")) {
                    step();
                    p.born = n(0, land.places - 1);
                } else if (at("papers")) {
                    step();
                    p.papers = n(0, 9);
                } else {
                    want("to");
                    p.errand = n(0, land.places - 1);
                    want("by");
                    p.by = n(0, 999);
                }
            }
            p.been = 1 << p.born | 1 << p.place;
            p.done = p.errand == p.place;
            land.people.add(p);
        }

        Num truth(int depth) {
            Num left = both(depth);
            while (at("or")) {
                step();
                Num a = left;
                Num b = both(depth);
                left = m -> a.of(m) + b.of(m) > 0 ? 1 : 0;
            }
            return left;
        }

        Num both(int depth) {
            Num left = unit(depth);
            while (at("and")) {
                step();
                Num a = left;
                Num b = unit(depth);
                left = m -> a.of(m) * b.of(m);
            }
            return left;
        }

        int deeper(int depth) {
            if (depth == 6) {
                throw fault(4);
            }
            step();
            return depth + 1;
        }

        Num unit(int depth) {
            if (at("not")) {
                Num a = unit(deeper(depth));
                return m -> 1 - a.of(m);
            }
            if (at("[")) {
                Num a = truth(deeper(depth));
                want("]");
                return a;
            }
            Num a = sum(depth);
            String sign = token;
            if (!sign.matches("[=<>]")) {
                throw fault(2);
            }
            step();
            Num b = sum(depth);
            return switch (sign) {
                case "=" -> m -> a.of(m) == b.of(m) ? 1 : 0;
                case "<" -> m -> a.of(m) < b.of(m) ? 1 : 0;
                default -> m -> a.of(m) > b.of(m) ? 1 : 0;
            };
        }

        static long kept(long v) {
            return v > 1_000_000 ? 1_000_000 : v < -1_000_000 ? -1_000_000 : v;
        }

        Num sum(int depth) {
            Num left = term(depth);
            while (at("+") || at("-")) {
                boolean plus = at("+");
                step();
                Num a = left;
                Num b = term(depth);
                left = m -> kept(plus ? a.of(m) + b.of(m) : a.of(m) - b.of(m));
            }
            return left;
        }

        Num term(int depth) {
            Num left = atom(depth);
            while (at("*")) {
                step();
                Num a = left;
                Num b = atom(depth);
                left = m -> kept(a.of(m) * b.of(m));
            }
            return left;
        }

        Num atom(int depth) {
            if (at("(")) {
                Num a = sum(deeper(depth));
                want(")");
                return a;
            }
            String name = token;
            if (Arrays.asList("who", "born", "been", "seen", "papers", "from", "to").contains(name)) {
                step();
                return m -> m.get(name);
            }
            int v = n(0, 999);
            return m -> v;
        }
    }

    // ---- the state

    Text land = new Text();
    State now = new State();
    List<State> past = new ArrayList<>();
    String tape = "";
    int fault;
    int faultAt = -1;
    long[][] trays = new long[4][];
    int[] sorts = new int[4];
    Text[] imageLands = new Text[2];
    State[] imageStates = new State[2];

    int feed(int... v) {
        if (tape.length() + 20 > 900) {
            return -5;
        }
        StringBuilder s = new StringBuilder(tape);
        for (int x : v) {
            for (int k = 3; k >= 0; k--) {
                s.append((char) (x >> 8 * k & 255));
            }
        }
        tape = s.toString();
        return tape.length();
    }

    int land(int n) {
        if (n < 0 || n > tape.length()) {
            return -3;
        }
        String text = tape.substring(0, n);
        tape = "";
        try {
            land = new Parser(text).parse();
        } catch (Fault f) {
            fault = f.kind;
            faultAt = f.at;
            return -30 - f.kind;
        }
        fault = 0;
        faultAt = -1;
        past.clear();
        now = new State();
        for (Person p : land.people) {
            now.people.add(p.copy());
        }
        return land.lines;
    }

    int fault(int what) {
        return what == 0 ? fault : what == 1 ? faultAt : -1;
    }

    boolean nobody(int p) {
        return p < 0 || p >= now.people.size();
    }

    boolean noRoad(int r) {
        return r < 0 || r >= land.roads.size();
    }

    boolean nowhere(int place) {
        return place < 0 || place >= land.places;
    }

    int person(int p, int what) {
        if (nobody(p) || what < 0 || what > 7) {
            return -2;
        }
        Person x = now.people.get(p);
        return new int[] {x.place, x.day, x.papers, x.been, x.born, x.errand, x.by, x.done ? 1 : 0}[what];
    }

    int road(int r, int what) {
        if (noRoad(r) || what < 0 || what > 5) {
            return -2;
        }
        Road x = land.roads.get(r);
        return new int[] {x.a, x.b, x.days, x.bridge ? 1 : 0, x.flood, now.shut.contains(r) ? 1 : 0}[what];
    }

    Map<String, Long> names(int p, int from, int to, int been, int papers) {
        Map<String, Long> m = new HashMap<>();
        m.put("who", (long) p);
        m.put("born", (long) now.people.get(p).born);
        m.put("been", (long) (been >> to & 1));
        m.put("seen", (long) Integer.bitCount(been));
        m.put("papers", (long) papers);
        m.put("from", (long) from);
        m.put("to", (long) to);
        return m;
    }

    boolean lets(Map<String, Long> m) {
        return land.lets == null ? m.get("been") == 1 : land.lets.of(m) == 1;
    }

    int toll(Map<String, Long> m) {
        return land.takes == null ? 0 : (int) Math.max(0, land.takes.of(m));
    }

    int otherEnd(int r, int place) {
        Road x = land.roads.get(r);
        return x.a == place ? x.b : x.b == place ? x.a : -1;
    }

    int why(State s, int p, int r) {
        if (nobody(p) || noRoad(r)) {
            return 1;
        }
        Person x = s.people.get(p);
        int to = otherEnd(r, x.place);
        if (to < 0) {
            return 2;
        }
        if (s.shut.contains(r)) {
            return 3;
        }
        if (land.roads.get(r).bridge) {
            Map<String, Long> m = names(p, x.place, to, x.been, x.papers);
            if (!lets(m)) {
                return 4;
            }
            if (toll(m) > x.papers) {
                return 5;
            }
        }
        return 0;
    }

    int takes(int p, int r) {
        if (nobody(p) || noRoad(r)) {
            return -2;
        }
        Person x = now.people.get(p);
        int to = otherEnd(r, x.place);
        if (to < 0) {
            return -5;
        }
        return land.roads.get(r).bridge ? toll(names(p, x.place, to, x.been, x.papers)) : 0;
    }

    // ---- deeds

    int doGo(State s, int p, int r) {
        int why = why(s, p, r);
        if (why == 0) {
            Person x = s.people.get(p);
            int to = otherEnd(r, x.place);
            if (land.roads.get(r).bridge) {
                x.papers -= toll(names(p, x.place, to, x.been, x.papers));
            }
            x.place = to;
            x.been |= 1 << to;
            x.day += land.roads.get(r).days;
            x.done |= x.errand == to && x.day <= x.by;
        }
        return why;
    }

    int doGive(State s, int p, int q, int n) {
        if (nobody(p) || nobody(q) || p == q || n < 1 || n > 9) {
            return 1;
        }
        Person x = s.people.get(p);
        Person y = s.people.get(q);
        if (x.place != y.place || x.papers < n || y.papers + n > 9) {
            return 2;
        }
        x.papers -= n;
        y.papers += n;
        return 0;
    }

    int doForge(State s, int p) {
        if (nobody(p)) {
            return 1;
        }
        Person x = s.people.get(p);
        if (x.papers == 9) {
            return 2;
        }
        x.papers++;
        x.day += 3;
        return 0;
    }

    int doShut(State s, int r) {
        if (noRoad(r)) {
            return 1;
        }
        if (!s.shut.remove(r)) {
            s.shut.add(r);
        }
        return 0;
    }

    int doDeed(State s, long v) {
        if (v == -1) {
            s.people.forEach(x -> x.day++);
            return 0;
        }
        if (v >= 0 && v <= 599) {
            return doGo(s, (int) v / 100, (int) v % 100);
        }
        if (v >= 1000 && v <= 1999) {
            return doGive(s, (int) (v - 1000) / 100, (int) (v / 10) % 10, (int) v % 10);
        }
        if (v >= 2000 && v <= 2009) {
            return doForge(s, (int) v - 2000);
        }
        if (v >= 3000 && v <= 3019) {
            return doShut(s, (int) v - 3000);
        }
        return 1;
    }

    void keep(State before) {
        past.add(before);
        if (past.size() > 10) {
            past.remove(0);
        }
    }

    int go(int p, int r) {
        State before = now.copy();
        int why = doGo(now, p, r);
        if (why != 0) {
            return -10 - why;
        }
        keep(before);
        return now.people.get(p).place;
    }

    int give(int p, int q, int n) {
        State before = now.copy();
        int why = doGive(now, p, q, n);
        if (why != 0) {
            return -10 - why;
        }
        keep(before);
        return now.people.get(q).papers;
    }

    int forge(int p) {
        State before = now.copy();
        int why = doForge(now, p);
        if (why != 0) {
            return -10 - why;
        }
        keep(before);
        return now.people.get(p).papers;
    }

    int shut(int r) {
        State before = now.copy();
        int why = doShut(now, r);
        if (why != 0) {
            return -10 - why;
        }
        keep(before);
        return now.shut.contains(r) ? 1 : 0;
    }

    int days(int n) {
        if (n < 1 || n > 99) {
            return -3;
        }
        keep(now.copy());
        now.people.forEach(x -> x.day += n);
        return 0;
    }

    int undo(int n) {
        if (n < 1 || n > 10 || n > past.size()) {
            return -3;
        }
        for (int i = 0; i < n; i++) {
            now = past.remove(past.size() - 1);
        }
        return past.size();
    }

    boolean noTray(int tray) {
        return tray < 0 || tray > 3;
    }

    int judge(int tray, int what) {
        if (noTray(tray) || what < 0 || what > 3) {
            return -2;
        }
        if (trays[tray] == null) {
            return -6;
        }
        State s = now.copy();
        int place = -1;
        int why = 0;
        for (int i = 0; i < trays[tray].length && why == 0; i++) {
            why = doDeed(s, trays[tray][i]);
            place = why == 0 ? -1 : i;
        }
        int bits = 0;
        int papers = 0;
        for (int p = 0; p < s.people.size(); p++) {
            bits |= s.people.get(p).done ? 1 << p : 0;
            papers += s.people.get(p).papers;
        }
        return new int[] {place, why, bits, papers}[what];
    }

    int perform(int tray) {
        if (noTray(tray)) {
            return -2;
        }
        if (trays[tray] == null) {
            return -6;
        }
        State before = now.copy();
        int n = 0;
        while (n < trays[tray].length && doDeed(now, trays[tray][n]) == 0) {
            n++;
        }
        if (n > 0) {
            keep(before);
        }
        return n;
    }

    int seed;

    int draw() {
        seed = 1103515245 * seed + 12345;
        return seed >>> 16;
    }

    int year(int x, int times) {
        if (times < 1 || times > 40) {
            return -3;
        }
        State before = now.copy();
        seed = x;
        int n = 0;
        for (int i = 0; i < times; i++) {
            int why;
            switch (draw() % 5) {
                case 0:
                    why = doDeed(now, -1);
                    break;
                case 1:
                case 2:
                    int p = draw() % 6;
                    why = doGo(now, p, draw() % 12);
                    break;
                case 3:
                    why = doForge(now, draw() % 6);
                    break;
                default:
                    why = doShut(now, draw() % 12);
                    break;
            }
            n += why == 0 ? 1 : 0;
        }
        if (n > 0) {
            keep(before);
        }
        return n;
    }

    // ---- ways

    static final class Step implements Comparable<Step> {
        int days;
        List<Integer> roads;
        int place;
        int been;
        int papers;
        int mask;
        int lastBridge = -1;
        boolean going;

        String key() {
            return mask + "/" + been + "/" + papers + "/" + place;
        }

        @Override
        public int compareTo(Step o) {
            if (days != o.days) {
                return Integer.compare(days, o.days);
            }
            for (int i = 0; i < Math.min(roads.size(), o.roads.size()); i++) {
                if (!roads.get(i).equals(o.roads.get(i))) {
                    return Integer.compare(roads.get(i), o.roads.get(i));
                }
            }
            return Integer.compare(roads.size(), o.roads.size());
        }
    }

    /** The first steps to all states, the soonest and first by roads first; steps over bridges are all listed. */
    final class Tour {
        final int p;
        int papers;
        Set<Integer> shut;
        int waived = -1;
        boolean round;
        final List<Step> settled = new ArrayList<>();
        final List<Step> overBridges = new ArrayList<>();

        Tour(int p) {
            this.p = p;
            papers = now.people.get(p).papers;
            shut = new HashSet<>(now.shut);
        }

        Step next(Step s, int r) {
            int to = otherEnd(r, s.place);
            if (to < 0 || shut.contains(r)) {
                return null;
            }
            Step t = new Step();
            t.days = s.days + land.roads.get(r).days;
            t.roads = new ArrayList<>(s.roads);
            t.roads.add(r);
            t.place = to;
            t.been = s.been | 1 << to;
            t.papers = s.papers;
            t.mask = s.mask;
            if (land.roads.get(r).bridge && r != waived) {
                Map<String, Long> m = names(p, s.place, to, s.been, s.papers);
                if (!lets(m) || toll(m) > s.papers) {
                    return null;
                }
                t.papers -= toll(m);
                t.mask |= round ? 1 << r : 0;
                t.lastBridge = r;
                t.going = (s.been >> to & 1) == 0;
            }
            return t;
        }

        Step first() {
            Step s = new Step();
            s.roads = new ArrayList<>();
            s.place = now.people.get(p).place;
            s.been = now.people.get(p).been;
            s.papers = papers;
            return s;
        }

        Tour run() {
            PriorityQueue<Step> open = new PriorityQueue<>();
            Set<String> known = new HashSet<>();
            open.add(first());
            while (!open.isEmpty()) {
                Step s = open.poll();
                if (!known.add(s.key())) {
                    continue;
                }
                settled.add(s);
                for (int r = 0; r < land.roads.size(); r++) {
                    Step t = next(s, r);
                    if (t != null) {
                        if (t.lastBridge >= 0) {
                            overBridges.add(t);
                        }
                        if (!known.contains(t.key())) {
                            open.add(t);
                        }
                    }
                }
            }
            return this;
        }

        Step to(int place) {
            return settled.stream().filter(s -> s.place == place).findFirst().orElse(null);
        }

        Step loophole() {
            return overBridges.stream().filter(s -> s.going).min(Step::compareTo).orElse(null);
        }
    }

    Step soonestStep(int p, int place) {
        return new Tour(p).run().to(place);
    }

    int soonest(int p, int place) {
        if (nobody(p) || nowhere(place)) {
            return -2;
        }
        Step s = soonestStep(p, place);
        return s == null ? -1 : s.days;
    }

    int way(int p, int place, int i) {
        if (nobody(p) || nowhere(place)) {
            return -2;
        }
        if (i < 0) {
            return -3;
        }
        Step s = soonestStep(p, place);
        return s == null || i >= s.roads.size() ? -1 : s.roads.get(i);
    }

    int left(int p, int place) {
        if (nobody(p) || nowhere(place)) {
            return -2;
        }
        Step s = soonestStep(p, place);
        return s == null ? -1 : s.papers;
    }

    int reach(int p) {
        if (nobody(p)) {
            return -2;
        }
        int bits = 0;
        for (Step s : new Tour(p).run().settled) {
            bits |= 1 << s.place;
        }
        return bits;
    }

    long ways(int p, int place, int n) {
        if (nobody(p) || nowhere(place)) {
            return -2;
        }
        if (n < 0 || n > 9) {
            return -3;
        }
        Tour tour = new Tour(p);
        Map<String, Step> steps = new TreeMap<>();
        Map<String, Long> counts = new TreeMap<>();
        steps.put(tour.first().key(), tour.first());
        counts.put(tour.first().key(), 1L);
        for (int i = 0; i < n; i++) {
            Map<String, Long> then = new TreeMap<>();
            for (String key : counts.keySet()) {
                for (int r = 0; r < land.roads.size(); r++) {
                    Step t = tour.next(steps.get(key), r);
                    if (t != null) {
                        steps.putIfAbsent(t.key(), t);
                        then.merge(t.key(), counts.get(key), Long::sum);
                    }
                }
            }
            counts = then;
        }
        long all = 0;
        for (String key : counts.keySet()) {
            all += steps.get(key).place == place ? counts.get(key) : 0;
        }
        return all;
    }

    int needed(int p, int place) {
        if (nobody(p) || nowhere(place)) {
            return -2;
        }
        int bits = 0;
        if (soonestStep(p, place) != null) {
            for (int r = 0; r < land.roads.size(); r++) {
                Tour tour = new Tour(p);
                tour.shut.add(r);
                bits |= tour.run().to(place) == null ? 1 << r : 0;
            }
        }
        return bits;
    }

    int proofs(int p, int place) {
        if (nobody(p) || nowhere(place)) {
            return -2;
        }
        for (int n = 0; n <= 9; n++) {
            Tour tour = new Tour(p);
            tour.papers = n;
            if (tour.run().to(place) != null) {
                return n;
            }
        }
        return -1;
    }

    int waives(int p, int place) {
        if (nobody(p) || nowhere(place)) {
            return -2;
        }
        Step s = soonestStep(p, place);
        int best = s == null ? Integer.MAX_VALUE : s.days;
        int road = -1;
        for (int r = 0; r < land.roads.size(); r++) {
            Tour tour = new Tour(p);
            tour.waived = r;
            Step t = tour.run().to(place);
            if (t != null && t.days < best) {
                best = t.days;
                road = r;
            }
        }
        return road;
    }

    // ---- errands

    boolean timely(Tour tour) {
        Person x = now.people.get(tour.p);
        Step s = tour.run().to(x.errand);
        return s != null && x.day + s.days <= x.by;
    }

    int inTime(Integer shutToo) {
        int bits = 0;
        for (int p = 0; p < now.people.size(); p++) {
            Person x = now.people.get(p);
            if (x.errand >= 0) {
                Tour tour = new Tour(p);
                if (shutToo != null) {
                    tour.shut.add(shutToo);
                }
                bits |= x.done || timely(tour) ? 1 << p : 0;
            }
        }
        return bits;
    }

    int spare(int p) {
        if (nobody(p)) {
            return -2;
        }
        Person x = now.people.get(p);
        if (x.errand < 0 || x.done) {
            return -5;
        }
        Step s = soonestStep(p, x.errand);
        return s == null || x.day + s.days > x.by ? -1 : x.by - x.day - s.days;
    }

    int helped() {
        for (int p = 0; p < now.people.size(); p++) {
            Person x = now.people.get(p);
            if (x.errand >= 0 && !x.done && x.papers < 9 && !timely(new Tour(p))) {
                Tour tour = new Tour(p);
                tour.papers++;
                if (timely(tour)) {
                    return p;
                }
            }
        }
        return -1;
    }

    int worst() {
        int fewest = Integer.bitCount(inTime(null));
        int road = -1;
        for (int r = 0; r < land.roads.size(); r++) {
            if (!now.shut.contains(r) && Integer.bitCount(inTime(r)) < fewest) {
                fewest = Integer.bitCount(inTime(r));
                road = r;
            }
        }
        return road;
    }

    // ---- over as if back, meeting

    int loophole(int p) {
        if (nobody(p)) {
            return -2;
        }
        Step s = new Tour(p).run().loophole();
        return s == null ? -1 : s.days;
    }

    int loopWay(int p, int i) {
        if (nobody(p)) {
            return -2;
        }
        if (i < 0) {
            return -3;
        }
        Step s = new Tour(p).run().loophole();
        return s == null || i >= s.roads.size() ? -1 : s.roads.get(i);
    }

    int bridges() {
        int bits = 0;
        for (int r = 0; r < land.roads.size(); r++) {
            bits |= land.roads.get(r).bridge ? 1 << r : 0;
        }
        return bits;
    }

    int round(int p) {
        if (nobody(p)) {
            return -2;
        }
        Tour tour = new Tour(p);
        tour.round = true;
        for (Step s : tour.run().settled) {
            if (s.mask == bridges() && s.place == now.people.get(p).place) {
                return s.days;
            }
        }
        return -1;
    }

    int crosses(int p) {
        if (nobody(p)) {
            return -2;
        }
        int bits = 0;
        for (Step s : new Tour(p).run().overBridges) {
            bits |= 1 << s.lastBridge;
        }
        return bits;
    }

    int[] meeting(int p, int q) {
        int[] best = {-1, -1};
        Tour a = new Tour(p).run();
        Tour b = new Tour(q).run();
        for (int place = 0; place < land.places; place++) {
            Step s = a.to(place);
            Step t = b.to(place);
            if (s != null && t != null && (best[0] < 0 || Math.max(s.days, t.days) < best[0])) {
                best = new int[] {Math.max(s.days, t.days), place};
            }
        }
        return best;
    }

    int meet(int p, int q, int what) {
        return nobody(p) || nobody(q) || p == q ? -2 : meeting(p, q)[what];
    }

    // ---- where it has been

    boolean let(int p, int r, int end, int set) {
        Road x = land.roads.get(r);
        int to = end == 0 ? x.b : x.a;
        int from = end == 0 ? x.a : x.b;
        return lets(names(p, from, to, set, now.people.get(p).papers));
    }

    int code(int tray, int p) {
        if (nobody(p) || noTray(tray)) {
            return -2;
        }
        if (trays[tray] == null) {
            return -6;
        }
        if (trays[tray].length < 1 || trays[tray].length > 12) {
            return -4;
        }
        for (long v : trays[tray]) {
            boolean form = v >= 0 && v < 1200 && v % 10 < 2 && v / 10 % 10 < 2;
            if (!form || noRoad((int) v / 100) || !land.roads.get((int) v / 100).bridge) {
                return -3;
            }
        }
        return 0;
    }

    List<Integer> sets(int tray, int p) {
        Person x = now.people.get(p);
        List<Integer> sets = new ArrayList<>();
        for (int set = 0; set < 1 << land.places; set++) {
            boolean fits = (set >> x.born & 1) == 1 && (set >> x.place & 1) == 1;
            for (long v : trays[tray]) {
                fits = fits && let(p, (int) v / 100, (int) v / 10 % 10, set) == (v % 10 == 1);
            }
            if (fits) {
                sets.add(set);
            }
        }
        return sets;
    }

    int shoes(int tray, int p) {
        int code = code(tray, p);
        return code != 0 ? code : sets(tray, p).size();
    }

    int sure(int tray, int p) {
        int code = code(tray, p);
        return code != 0 ? code : sets(tray, p).stream().reduce((a, b) -> a & b).orElse(0);
    }

    int ask(int tray, int p) {
        int code = code(tray, p);
        if (code != 0) {
            return code;
        }
        List<Integer> sets = sets(tray, p);
        if (sets.isEmpty()) {
            return -1;
        }
        int best = -1;
        int where = -1;
        for (int r = 0; r < land.roads.size(); r++) {
            for (int end = 0; end < 2 && land.roads.get(r).bridge; end++) {
                int let = 0;
                for (int set : sets) {
                    let += let(p, r, end, set) ? 1 : 0;
                }
                if (Math.min(let, sets.size() - let) > best) {
                    best = Math.min(let, sets.size() - let);
                    where = 10 * r + end;
                }
            }
        }
        return where;
    }

    // ---- floods

    java.math.BigInteger[] fraction(Step s) {
        java.math.BigInteger above = java.math.BigInteger.ONE;
        java.math.BigInteger below = java.math.BigInteger.ONE;
        for (int r : new HashSet<>(s.roads)) {
            above = above.multiply(java.math.BigInteger.valueOf(10 - land.roads.get(r).flood));
            below = below.multiply(java.math.BigInteger.TEN);
        }
        java.math.BigInteger g = above.gcd(below);
        return new java.math.BigInteger[] {above.divide(g), below.divide(g)};
    }

    long dry(int p, int place, int what) {
        if (nobody(p) || nowhere(place) || what < 0 || what > 1) {
            return -2;
        }
        Step s = soonestStep(p, place);
        return s == null ? -1 : fraction(s)[what].longValueExact();
    }

    int safest(int p) {
        if (nobody(p)) {
            return -2;
        }
        Tour tour = new Tour(p).run();
        java.math.BigInteger[] best = null;
        int where = -1;
        for (int place = 0; place < land.places; place++) {
            Step s = tour.to(place);
            if (s != null && place != now.people.get(p).place) {
                java.math.BigInteger[] f = fraction(s);
                if (best == null || f[0].multiply(best[1]).compareTo(best[0].multiply(f[1])) > 0) {
                    best = f;
                    where = place;
                }
            }
        }
        return where;
    }

    // ---- trays, images

    int numbers(int tray, int sort, int n) {
        if (noTray(tray) || sort < 0 || sort > 3) {
            return -2;
        }
        if (n < 0 || n > 40) {
            return -3;
        }
        trays[tray] = new long[n];
        sorts[tray] = sort;
        return 0;
    }

    long cut(int tray, long v) {
        int bits = 64 - (8 << sorts[tray]);
        return v << bits >> bits;
    }

    long write(int tray, int i, long v) {
        if (noTray(tray)) {
            return -2;
        }
        if (trays[tray] == null) {
            return -6;
        }
        if (i < 0 || i >= trays[tray].length) {
            return -7;
        }
        trays[tray][i] = cut(tray, v);
        return trays[tray][i];
    }

    int lists(int tray, int p, int place) {
        if (noTray(tray) || nobody(p) || nowhere(place)) {
            return -2;
        }
        if (trays[tray] == null) {
            return -6;
        }
        Step s = soonestStep(p, place);
        if (s == null) {
            return -5;
        }
        int n = Math.min(s.roads.size(), trays[tray].length);
        for (int i = 0; i < n; i++) {
            trays[tray][i] = cut(tray, 100 * p + s.roads.get(i));
        }
        return n;
    }

    int image(int i) {
        if (i < 0 || i > 1) {
            return -2;
        }
        imageLands[i] = land;
        imageStates[i] = now.copy();
        return 0;
    }

    int restore(int i) {
        if (i < 0 || i > 1) {
            return -2;
        }
        if (imageLands[i] == null) {
            return -5;
        }
        land = imageLands[i];
        now = imageStates[i].copy();
        past.clear();
        return 0;
    }

    int count(int what) {
        int shut = 0;
        for (int r : now.shut) {
            shut |= 1 << r;
        }
        int errands = 0;
        int done = 0;
        int papers = 0;
        for (Person x : now.people) {
            errands += x.errand >= 0 ? 1 : 0;
            done += x.done ? 1 : 0;
            papers += x.papers;
        }
        int[] all = {land.places, land.roads.size(), now.people.size(), bridges(), shut, errands, done, papers,
            past.size(), tape.length(), land.lines};
        return what < 0 || what >= all.length ? -1 : all[what];
    }
}
