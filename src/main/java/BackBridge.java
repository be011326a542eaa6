import java.util.Arrays;

/** A land of bridges that let over only who is going back, and the people in it. */
public final class BackBridge {
    public static final int NONE = -1;

    private static final int NO_SUCH = -2;
    private static final int CANT_BE = -3;
    private static final int TOO_MANY = -4;
    private static final int NOT_NOW = -5;
    private static final int MISSING = -6;
    private static final int NO_NUMBER = -7;
    private static final int WHY_NOT = -10;
    private static final int FAULTY = -30;

    private static final int TAPE = 900;
    private static final int FED = 20;
    private static final int PLACES = 6;
    private static final int ROADS = 12;
    private static final int PEOPLE = 6;
    private static final int BRIDGES = 4;
    private static final int MOST_PAPERS = 9;
    private static final int PAPER_COUNTS = 10;
    private static final int IMAGES = 2;

    private final byte[] tape = new byte[TAPE];
    private int taped;
    private final Land land = new Land();
    private final World world = new World();
    private final World before = new World();
    private final Reader reader = new Reader();
    private final Laws laws = new Laws(land);
    private final Deeds deeds = new Deeds(land, laws);
    private final Past past = new Past();
    private final Search search = new Search(land, laws);
    private final Choices choices = new Choices(land, world, search);
    private final Trays trays = new Trays();
    private final Answers answers = new Answers(land, world, laws);
    private final Land[] imageLands = {new Land(), new Land()};
    private final World[] imageWorlds = {new World(), new World()};
    private int imagesMade;

    public BackBridge() {
    }

    // ---- the land

    public int feed(int a, int b, int c, int d, int e) {
        if (taped + FED > TAPE) {
            return NOT_NOW;
        }
        feedOne(a);
        feedOne(b);
        feedOne(c);
        feedOne(d);
        feedOne(e);
        return taped;
    }

    private void feedOne(int bytes) {
        for (int shift = 24; shift >= 0; shift -= 8) {
            if (taped < TAPE) {
                tape[taped] = (byte) (bytes >> shift);
                taped++;
            }
        }
    }

    public int land(int n) {
        if (n < 0 || n > taped) {
            return CANT_BE;
        }
        taped = 0;
        int kind = reader.readLand(tape, n);
        if (kind != 0) {
            return FAULTY - kind;
        }
        land.copyFrom(reader.draft);
        laws.forget();
        world.begin(land);
        past.forget();
        return land.lines;
    }

    public int fault(int what) {
        if (what == 0) {
            return reader.fault;
        }
        return what == 1 ? reader.faultAt : NONE;
    }

    public int person(int p, int what) {
        if (!land.hasPerson(p)) {
            return NO_SUCH;
        }
        switch (what) {
            case 0:
                return world.place[p];
            case 1:
                return world.day[p];
            case 2:
                return world.papers[p];
            case 3:
                return world.been[p];
            case 4:
                return land.born[p];
            case 5:
                return land.errand[p];
            case 6:
                return land.by[p];
            case 7:
                return world.done >> p & 1;
            default:
                return NO_SUCH;
        }
    }

    public int road(int r, int what) {
        if (!land.hasRoad(r)) {
            return NO_SUCH;
        }
        switch (what) {
            case 0:
                return land.from[r];
            case 1:
                return land.to[r];
            case 2:
                return land.length[r];
            case 3:
                return land.bridges >> r & 1;
            case 4:
                return land.flood[r];
            case 5:
                return world.shut >> r & 1;
            default:
                return NO_SUCH;
        }
    }

    public int why(int p, int r) {
        return deeds.whyNotGo(world, p, r);
    }

    public int takes(int p, int r) {
        if (!land.hasPerson(p) || !land.hasRoad(r)) {
            return NO_SUCH;
        }
        int to = land.across(r, world.place[p]);
        if (to == NONE) {
            return NOT_NOW;
        }
        if (!land.isBridge(r)) {
            return 0;
        }
        return laws.toll(p, r, to, world.been[p], world.papers[p]);
    }

    // ---- deeds

    public int go(int p, int r) {
        before.copyFrom(world);
        int whyNot = deeds.tryGo(world, p, r);
        if (whyNot != 0) {
            return WHY_NOT - whyNot;
        }
        past.keep(before);
        return land.hasPerson(p) ? world.place[p] : NONE;
    }

    public int give(int p, int q, int n) {
        before.copyFrom(world);
        int whyNot = deeds.tryGive(world, p, q, n);
        if (whyNot != 0) {
            return WHY_NOT - whyNot;
        }
        past.keep(before);
        return land.hasPerson(q) ? world.papers[q] : NONE;
    }

    public int forge(int p) {
        before.copyFrom(world);
        int whyNot = deeds.tryForge(world, p);
        if (whyNot != 0) {
            return WHY_NOT - whyNot;
        }
        past.keep(before);
        return land.hasPerson(p) ? world.papers[p] : NONE;
    }

    public int shut(int r) {
        before.copyFrom(world);
        int whyNot = deeds.tryShut(world, r);
        if (whyNot != 0) {
            return WHY_NOT - whyNot;
        }
        past.keep(before);
        return world.shut >> r & 1;
    }

    public int days(int n) {
        if (n < 1 || n > 99) {
            return CANT_BE;
        }
        past.keep(world);
        deeds.pass(world, n);
        return 0;
    }

    public int undo(int n) {
        if (n < 1 || n > past.count) {
            return CANT_BE;
        }
        past.bringBack(world, n);
        return past.count;
    }

    public int judge(int tray, int what) {
        if (!trays.isTray(tray) || what < 0 || what > 3) {
            return NO_SUCH;
        }
        if (trays.isMissing(tray)) {
            return MISSING;
        }
        before.copyFrom(world);
        int done = deeds.doAll(before, trays, tray);
        switch (what) {
            case 0:
                return done < trays.size[tray] ? done : NONE;
            case 1:
                return deeds.stoppedBy;
            case 2:
                return before.done;
            default:
                return before.allPapers();
        }
    }

    public int perform(int tray) {
        if (!trays.isTray(tray)) {
            return NO_SUCH;
        }
        if (trays.isMissing(tray)) {
            return MISSING;
        }
        before.copyFrom(world);
        int done = deeds.doAll(world, trays, tray);
        if (done > 0) {
            past.keep(before);
        }
        return done;
    }

    public int year(int seed, int times) {
        if (times < 1 || times > 40) {
            return CANT_BE;
        }
        before.copyFrom(world);
        int done = deeds.liveYear(world, seed, times);
        if (done > 0) {
            past.keep(before);
        }
        return done;
    }

    // ---- ways

    public int soonest(int p, int place) {
        if (!land.hasPerson(p) || !land.hasPlace(place)) {
            return NO_SUCH;
        }
        choices.seek(p);
        return search.daysTo(place);
    }

    public int way(int p, int place, int i) {
        if (!land.hasPerson(p) || !land.hasPlace(place)) {
            return NO_SUCH;
        }
        if (i < 0) {
            return CANT_BE;
        }
        choices.seek(p);
        search.spellTo(place);
        return search.spelledRoad(i);
    }

    public int left(int p, int place) {
        if (!land.hasPerson(p) || !land.hasPlace(place)) {
            return NO_SUCH;
        }
        choices.seek(p);
        return search.papersBehind(place);
    }

    public int reach(int p) {
        if (!land.hasPerson(p)) {
            return NO_SUCH;
        }
        choices.seek(p);
        return search.reached();
    }

    public long ways(int p, int place, int n) {
        if (!land.hasPerson(p) || !land.hasPlace(place)) {
            return NO_SUCH;
        }
        if (n < 0 || n > 9) {
            return CANT_BE;
        }
        search.startAt(world, p);
        return search.waysTo(place, n);
    }

    public int needed(int p, int place) {
        if (!land.hasPerson(p) || !land.hasPlace(place)) {
            return NO_SUCH;
        }
        return choices.roadsNeeded(p, place);
    }

    public int proofs(int p, int place) {
        if (!land.hasPerson(p) || !land.hasPlace(place)) {
            return NO_SUCH;
        }
        return choices.fewestPapers(p, place);
    }

    public int waives(int p, int place) {
        if (!land.hasPerson(p) || !land.hasPlace(place)) {
            return NO_SUCH;
        }
        return choices.bestWaiver(p, place);
    }

    // ---- errands

    public int inTime() {
        return choices.timely();
    }

    public int spare(int p) {
        if (!land.hasPerson(p)) {
            return NO_SUCH;
        }
        if (!choices.hasToDo(p)) {
            return NOT_NOW;
        }
        choices.seek(p);
        return choices.daysToWait(p);
    }

    public int helped() {
        return choices.firstHelped();
    }

    public int worst() {
        return choices.worstRoad();
    }

    // ---- over as if back

    public int loophole(int p) {
        if (!land.hasPerson(p)) {
            return NO_SUCH;
        }
        choices.seek(p);
        return search.daysToLoophole();
    }

    public int loopWay(int p, int i) {
        if (!land.hasPerson(p)) {
            return NO_SUCH;
        }
        if (i < 0) {
            return CANT_BE;
        }
        choices.seek(p);
        search.spellLoophole();
        return search.spelledRoad(i);
    }

    public int round(int p) {
        if (!land.hasPerson(p)) {
            return NO_SUCH;
        }
        search.startAt(world, p);
        return search.daysRound();
    }

    public int crosses(int p) {
        if (!land.hasPerson(p)) {
            return NO_SUCH;
        }
        choices.seek(p);
        return search.crossed;
    }

    // ---- meeting

    public int meet(int p, int q) {
        if (!land.hasPerson(p) || !land.hasPerson(q) || p == q) {
            return NO_SUCH;
        }
        int meeting = choices.soonestMeeting(p, q);
        return meeting == NONE ? NONE : meeting / PLACES;
    }

    public int meetAt(int p, int q) {
        if (!land.hasPerson(p) || !land.hasPerson(q) || p == q) {
            return NO_SUCH;
        }
        int meeting = choices.soonestMeeting(p, q);
        return meeting == NONE ? NONE : meeting % PLACES;
    }

    // ---- where it has been

    public int shoes(int tray, int p) {
        int code = answers.weigh(trays, tray, p);
        return code != 0 ? code : Long.bitCount(answers.sets);
    }

    public int sure(int tray, int p) {
        int code = answers.weigh(trays, tray, p);
        return code != 0 ? code : answers.common();
    }

    public int ask(int tray, int p) {
        int code = answers.weigh(trays, tray, p);
        return code != 0 ? code : answers.bestQuestion(p);
    }

    // ---- floods

    public long dry(int p, int place, int what) {
        if (!land.hasPerson(p) || !land.hasPlace(place) || what < 0 || what > 1) {
            return NO_SUCH;
        }
        choices.seek(p);
        if (search.daysTo(place) == NONE) {
            return NONE;
        }
        choices.weighFloods(place);
        choices.lowerFloods();
        return what == 0 ? choices.dryAbove : choices.dryBelow;
    }

    public int safest(int p) {
        if (!land.hasPerson(p)) {
            return NO_SUCH;
        }
        choices.seek(p);
        return choices.driestPlace(world.place[p]);
    }

    // ---- trays, images

    public int numbers(int tray, int sort, int n) {
        if (!trays.isTray(tray) || sort < 0 || sort > 3) {
            return NO_SUCH;
        }
        if (n < 0 || n > Trays.LONGEST) {
            return CANT_BE;
        }
        trays.make(tray, sort, n);
        return 0;
    }

    public long write(int tray, int i, long v) {
        if (!trays.isTray(tray)) {
            return NO_SUCH;
        }
        if (trays.isMissing(tray)) {
            return MISSING;
        }
        if (i < 0 || i >= trays.size[tray]) {
            return NO_NUMBER;
        }
        trays.put(tray, i, v);
        return trays.number[tray][i];
    }

    public int lists(int tray, int p, int place) {
        if (!trays.isTray(tray) || !land.hasPerson(p) || !land.hasPlace(place)) {
            return NO_SUCH;
        }
        if (trays.isMissing(tray)) {
            return MISSING;
        }
        choices.seek(p);
        if (search.daysTo(place) == NONE) {
            return NOT_NOW;
        }
        search.spellTo(place);
        int listed = Math.min(search.spelledCount, trays.size[tray]);
        for (int i = 0; i < listed; i++) {
            trays.put(tray, i, 100 * p + search.spelledRoad(i));
        }
        return listed;
    }

    public int image(int i) {
        if (i < 0 || i >= IMAGES) {
            return NO_SUCH;
        }
        imageLands[i].copyFrom(land);
        imageWorlds[i].copyFrom(world);
        imagesMade |= 1 << i;
        return 0;
    }

    public int restore(int i) {
        if (i < 0 || i >= IMAGES) {
            return NO_SUCH;
        }
        if ((imagesMade >> i & 1) == 0) {
            return NOT_NOW;
        }
        land.copyFrom(imageLands[i]);
        world.copyFrom(imageWorlds[i]);
        laws.forget();
        past.forget();
        return 0;
    }

    public int count(int what) {
        switch (what) {
            case 0:
                return land.places;
            case 1:
                return land.roads;
            case 2:
                return land.people;
            case 3:
                return land.bridges;
            case 4:
                return world.shut;
            case 5:
                return land.errands();
            case 6:
                return Integer.bitCount(world.done);
            case 7:
                return world.allPapers();
            case 8:
                return past.count;
            case 9:
                return taped;
            case 10:
                return land.lines;
            default:
                return NONE;
        }
    }

    /** What a text tells: it stays as it is till another one is read. */
    private static final class Land {
        int places = 2;
        int lines;
        int roads;
        int people;
        int bridges;
        final int[] from = new int[ROADS];
        final int[] to = new int[ROADS];
        final int[] length = new int[ROADS];
        final int[] flood = new int[ROADS];
        final int[] at = new int[PEOPLE];
        final int[] born = new int[PEOPLE];
        final int[] papers = new int[PEOPLE];
        final int[] errand = new int[PEOPLE];
        final int[] by = new int[PEOPLE];
        final Law letsOver = new Law();
        final Law toll = new Law();

        void clear() {
            places = 2;
            lines = 0;
            roads = 0;
            people = 0;
            bridges = 0;
            letsOver.size = 0;
            toll.size = 0;
        }

        void copyFrom(Land other) {
            places = other.places;
            lines = other.lines;
            roads = other.roads;
            people = other.people;
            bridges = other.bridges;
            System.arraycopy(other.from, 0, from, 0, ROADS);
            System.arraycopy(other.to, 0, to, 0, ROADS);
            System.arraycopy(other.length, 0, length, 0, ROADS);
            System.arraycopy(other.flood, 0, flood, 0, ROADS);
            System.arraycopy(other.at, 0, at, 0, PEOPLE);
            System.arraycopy(other.born, 0, born, 0, PEOPLE);
            System.arraycopy(other.papers, 0, papers, 0, PEOPLE);
            System.arraycopy(other.errand, 0, errand, 0, PEOPLE);
            System.arraycopy(other.by, 0, by, 0, PEOPLE);
            letsOver.copyLaw(other.letsOver);
            toll.copyLaw(other.toll);
        }

        boolean hasPerson(int p) {
            return p >= 0 && p < people;
        }

        boolean hasRoad(int r) {
            return r >= 0 && r < roads;
        }

        boolean hasPlace(int place) {
            return place >= 0 && place < places;
        }

        boolean isBridge(int r) {
            return (bridges >> r & 1) == 1;
        }

        /** How many bridges are told before road r. */
        int bridgesBefore(int r) {
            return Integer.bitCount(bridges & (1 << r) - 1);
        }

        /** The other end of a road from a place, or NONE if it neither begins nor ends there. */
        int across(int r, int place) {
            if (from[r] == place) {
                return to[r];
            }
            return to[r] == place ? from[r] : NONE;
        }

        int errands() {
            int told = 0;
            for (int p = 0; p < people; p++) {
                if (errand[p] != NONE) {
                    told++;
                }
            }
            return told;
        }
    }

    /** A law, its signs behind what they join: a number, a name or a sign each. */
    private static final class Law {
        static final int NAMES = 1000;
        static final int SIGNS = 1100;
        static final int NOT = 1100;
        static final int AND = 1101;
        static final int OR = 1102;
        static final int EQUAL = 1103;
        static final int LESS = 1104;
        static final int MORE = 1105;
        static final int PLUS = 1106;
        static final int MINUS = 1107;
        static final int TIMES = 1108;
        private static final int STACK = 64;
        private static final long BOUND = 1000000;

        final int[] code = new int[TAPE];
        final int[] stack = new int[STACK];
        int size;

        void copyLaw(Law other) {
            size = other.size;
            System.arraycopy(other.code, 0, code, 0, size);
        }

        void add(int sign) {
            if (size < TAPE) {
                code[size] = sign;
                size++;
            }
        }

        /** What it tells by the values of its names; of a truth 1 or 0; 0 without any signs. */
        int value(int[] names) {
            int top = 0;
            for (int i = 0; i < size; i++) {
                int sign = code[i];
                if (sign < SIGNS) {
                    if (top < STACK) {
                        stack[top] = sign < NAMES ? sign : names[sign - NAMES];
                        top++;
                    }
                } else if (sign == NOT) {
                    if (top > 0) {
                        stack[top - 1] = 1 - stack[top - 1];
                    }
                } else if (top > 1) {
                    top--;
                    long a = stack[top - 1];
                    long b = stack[top];
                    if (sign >= PLUS) {
                        long all = sign == PLUS ? a + b : sign == MINUS ? a - b : a * b;
                        stack[top - 1] = (int) Math.max(-BOUND, Math.min(BOUND, all));
                    } else {
                        boolean holds = sign == AND ? a + b == 2 : sign == OR ? a + b > 0
                                : sign == EQUAL ? a == b : sign == LESS ? a < b : a > b;
                        stack[top - 1] = holds ? 1 : 0;
                    }
                }
            }
            return top > 0 ? stack[0] : 0;
        }
    }

    /** Both laws as they bind a person before a bridge; what was asked once is kept. */
    private static final class Laws {
        private static final int SETS = 7;
        private static final int BEEN = 2;
        private static final int KEPT = PEOPLE * BRIDGES * 4 * SETS * PAPER_COUNTS;
        private static final int NOT_LET = 1;
        private static final int LET = 2;

        final Land land;
        final int[] names = new int[7];
        final int[] kept = new int[KEPT];

        Laws(Land land) {
            this.land = land;
        }

        void forget() {
            Arrays.fill(kept, 0);
        }

        /** How many papers it takes over bridge r to its end, or NONE if the law does not let it. */
        int price(int p, int r, int end, int been, int papers) {
            int way = (land.to[r] == end ? 2 : 0) + (been >> end & 1);
            int bridge = (p * BRIDGES + land.bridgesBefore(r)) * 4 + way;
            int key = (bridge * SETS + Integer.bitCount(been)) * PAPER_COUNTS + papers;
            if (key < 0 || key >= KEPT) {
                return NONE;
            }
            if (kept[key] == 0) {
                tell(p, r, end, been, papers);
                boolean over = land.letsOver.size == 0 ? names[BEEN] == 1 : land.letsOver.value(names) == 1;
                kept[key] = over ? LET + Math.max(0, land.toll.value(names)) : NOT_LET;
            }
            return kept[key] == NOT_LET ? NONE : kept[key] - LET;
        }

        /** How many papers it takes, whether it is let over or not. */
        int toll(int p, int r, int end, int been, int papers) {
            tell(p, r, end, been, papers);
            return Math.max(0, land.toll.value(names));
        }

        private void tell(int p, int r, int end, int been, int papers) {
            names[0] = p;
            names[1] = land.born[p];
            names[BEEN] = been >> end & 1;
            names[3] = Integer.bitCount(been);
            names[4] = papers;
            names[5] = land.to[r] == end ? land.from[r] : land.to[r];
            names[6] = end;
        }
    }

    /** All that a call can change of people and roads. */
    private static final class World {
        final int[] place = new int[PEOPLE];
        final int[] day = new int[PEOPLE];
        final int[] papers = new int[PEOPLE];
        final int[] been = new int[PEOPLE];
        int done;
        int shut;

        void begin(Land land) {
            done = 0;
            shut = 0;
            Arrays.fill(papers, 0);
            for (int p = 0; p < land.people; p++) {
                place[p] = land.at[p];
                day[p] = 0;
                papers[p] = land.papers[p];
                been[p] = 1 << land.at[p] | 1 << land.born[p];
                if (land.errand[p] == land.at[p]) {
                    done |= 1 << p;
                }
            }
        }

        void copyFrom(World other) {
            System.arraycopy(other.place, 0, place, 0, PEOPLE);
            System.arraycopy(other.day, 0, day, 0, PEOPLE);
            System.arraycopy(other.papers, 0, papers, 0, PEOPLE);
            System.arraycopy(other.been, 0, been, 0, PEOPLE);
            done = other.done;
            shut = other.shut;
        }

        /** Places of nobody hold no papers, so that all of them may be added. */
        int allPapers() {
            int all = 0;
            for (int p = 0; p < PEOPLE; p++) {
                all += papers[p];
            }
            return all;
        }
    }

    /** Reads a text into a draft, so that a faulty one changes nothing. */
    private static final class Reader {
        private static final int END = 0;
        private static final int BAD = 1;
        private static final int NUMBER = 2;
        private static final int WORDS = 200;
        private static final int PLACES_WORD = 200;
        private static final int ROAD = 201;
        private static final int PERSON = 202;
        private static final int LETS = 203;
        private static final int TAKES = 204;
        private static final int DAYS = 205;
        private static final int BRIDGE = 206;
        private static final int FLOOD = 207;
        private static final int AT = 208;
        private static final int BY = 209;
        private static final int OR = 210;
        private static final int AND = 211;
        private static final int NOT = 212;
        private static final int WHO = 213;
        private static final int BORN = 214;
        private static final int PAPERS = 217;
        private static final int TO = 219;
        private static final int NO_WORD = 220;
        private static final int CANT_STAND = 2;
        private static final int OUT_OF_BOUNDS = 3;
        private static final int TOO_MANY_TOLD = 4;
        private static final int DEEPEST = 6;

        final Land draft = new Land();
        final int[] kind = new int[TAPE + 1];
        final int[] value = new int[TAPE + 1];
        final int[] start = new int[TAPE + 1];
        int next;
        int got;
        Law law;
        int fault;
        int faultAt = NONE;

        Reader() {
            law = draft.toll;
        }

        /** The fault's kind, or 0 if the draft is the land told by the first n bytes. */
        int readLand(byte[] text, int n) {
            splitTokens(text, n);
            next = 0;
            draft.clear();
            int wrong = heading();
            for (int i = 0; i < TAPE && wrong == 0 && kind[next] != END; i++) {
                wrong = line();
            }
            fault = wrong != 0 && kind[next] == BAD ? 1 : wrong;
            faultAt = wrong == 0 ? NONE : start[next];
            return fault;
        }

        private void splitTokens(byte[] text, int n) {
            int token = 0;
            int i = 0;
            for (int step = 0; step <= TAPE && i < n; step++) {
                int sign = text[i];
                if (sign == 10 || sign == 32) {
                    i++;
                    continue;
                }
                start[token] = i;
                int behind = behindToken(text, n, i);
                if (sign >= '0' && sign <= '9') {
                    kind[token] = behind - i > 3 ? BAD : NUMBER;
                    value[token] = numberIn(text, i, behind);
                } else if (sign >= 'a' && sign <= 'z') {
                    kind[token] = wordIn(text, i, behind);
                } else {
                    kind[token] = sign > 0 && ";:+-*()[]=<>".indexOf((char) sign) >= 0 ? sign : BAD;
                }
                token++;
                i = behind;
            }
            kind[token] = END;
            start[token] = n;
        }

        /** Where the token from i on goes on no longer. */
        private static int behindToken(byte[] text, int n, int i) {
            boolean digits = text[i] >= '0' && text[i] <= '9';
            boolean letters = text[i] >= 'a' && text[i] <= 'z';
            int behind = i + 1;
            while (behind < n && (digits && text[behind] >= '0' && text[behind] <= '9'
                    || letters && text[behind] >= 'a' && text[behind] <= 'z')) {
                behind++;
            }
            return behind;
        }

        /** Only of 1 to 3 digits: longer ones are no tokens. */
        private static int numberIn(byte[] text, int from, int behind) {
            int number = 0;
            for (int i = from; i < behind && i < from + 3; i++) {
                number = number * 10 + text[i] - '0';
            }
            return number;
        }

        private static int wordIn(byte[] text, int from, int behind) {
            for (int k = WORDS; k < NO_WORD; k++) {
                String word = word(k);
                boolean same = word.length() == behind - from;
                for (int i = 0; same && i < word.length(); i++) {
                    same = word.charAt(i) == text[from + i];
                }
                if (same) {
                    return k;
                }
            }
            return NO_WORD;
        }

        /** The seven names of the laws stand together, in the order of their values. */
        private static String word(int k) {
            switch (k) {
                case PLACES_WORD:
                    return "places";
                case ROAD:
                    return "road";
                case PERSON:
                    return "person";
                case LETS:
                    return "lets";
                case TAKES:
                    return "takes";
                case DAYS:
                    return "days";
                case BRIDGE:
                    return "bridge";
                case FLOOD:
                    return "flood";
                case AT:
                    return "at";
                case BY:
                    return "by";
                case OR:
                    return "or";
                case AND:
                    return "and";
                case NOT:
                    return "not";
                case WHO:
                    return "who";
                case BORN:
                    return "born";
                case 215:
                    return "been";
                case 216:
                    return "seen";
                case PAPERS:
                    return "papers";
                case 218:
                    return "from";
                default:
                    return "to";
            }
        }

        /** 0, the token being read then, or its fault; a token that is none is told from it in the end. */
        private int take(int wanted) {
            if (kind[next] != wanted) {
                return CANT_STAND;
            }
            next++;
            return 0;
        }

        private int number(int least, int most, int banned) {
            if (kind[next] != NUMBER) {
                return CANT_STAND;
            }
            got = value[next];
            if (got < least || got > most || got == banned) {
                return OUT_OF_BOUNDS;
            }
            next++;
            return 0;
        }

        private int placeNumber(int banned) {
            return number(0, draft.places - 1, banned);
        }

        private int heading() {
            int wrong = take(PLACES_WORD);
            if (wrong == 0) {
                wrong = number(2, PLACES, NONE);
            }
            if (wrong == 0) {
                draft.places = got;
                draft.lines = 1;
                wrong = take(';');
            }
            return wrong;
        }

        private int line() {
            int wrong;
            switch (kind[next]) {
                case ROAD:
                    wrong = roadLine();
                    break;
                case PERSON:
                    wrong = personLine();
                    break;
                case LETS:
                    wrong = lawBegins(draft.letsOver);
                    wrong = wrong == 0 ? truth(0) : wrong;
                    break;
                case TAKES:
                    wrong = lawBegins(draft.toll);
                    wrong = wrong == 0 ? sum(0) : wrong;
                    break;
                default:
                    return CANT_STAND;
            }
            draft.lines++;
            return wrong == 0 ? take(';') : wrong;
        }

        private int roadLine() {
            int r = draft.roads;
            if (r >= ROADS) {
                return TOO_MANY_TOLD;
            }
            next++;
            int wrong = placeNumber(NONE);
            draft.from[r] = got;
            if (wrong == 0) {
                wrong = take(TO);
            }
            if (wrong == 0) {
                wrong = placeNumber(draft.from[r]);
                draft.to[r] = got;
            }
            if (wrong == 0) {
                wrong = take(DAYS);
            }
            if (wrong == 0) {
                wrong = number(1, 20, NONE);
                draft.length[r] = got;
            }
            draft.flood[r] = 0;
            for (int i = 0; i < TAPE && wrong == 0 && kind[next] != ';'; i++) {
                wrong = flag(r);
            }
            draft.roads++;
            return wrong;
        }

        private int flag(int r) {
            if (kind[next] == BRIDGE) {
                if (!draft.isBridge(r) && Integer.bitCount(draft.bridges) >= BRIDGES) {
                    return TOO_MANY_TOLD;
                }
                draft.bridges |= 1 << r;
                next++;
                return 0;
            }
            int wrong = take(FLOOD);
            if (wrong == 0) {
                wrong = number(0, 10, NONE);
                draft.flood[r] = got;
            }
            return wrong;
        }

        private int personLine() {
            int p = draft.people;
            if (p >= PEOPLE) {
                return TOO_MANY_TOLD;
            }
            next++;
            int wrong = take(AT);
            if (wrong == 0) {
                wrong = placeNumber(NONE);
            }
            draft.at[p] = got;
            draft.born[p] = got;
            draft.papers[p] = 0;
            draft.errand[p] = NONE;
            draft.by[p] = NONE;
            for (int i = 0; i < TAPE && wrong == 0 && kind[next] != ';'; i++) {
                wrong = mark(p);
            }
            draft.people++;
            return wrong;
        }

        private int mark(int p) {
            int wrong;
            if (kind[next] == BORN) {
                next++;
                wrong = placeNumber(NONE);
                draft.born[p] = got;
                return wrong;
            }
            if (kind[next] == PAPERS) {
                next++;
                wrong = number(0, MOST_PAPERS, NONE);
                draft.papers[p] = got;
                return wrong;
            }
            wrong = take(TO);
            if (wrong == 0) {
                wrong = placeNumber(NONE);
                draft.errand[p] = got;
            }
            if (wrong == 0) {
                wrong = take(BY);
            }
            if (wrong == 0) {
                wrong = number(0, 999, NONE);
                draft.by[p] = got;
            }
            return wrong;
        }

        /** A later law strikes an earlier one of its kind. */
        private int lawBegins(Law told) {
            law = told;
            law.size = 0;
            next++;
            return take(':');
        }

        private int truth(int depth) {
            boolean and = false;
            boolean or = false;
            for (int i = 0; i < TAPE; i++) {
                int wrong = unit(depth);
                if (wrong != 0) {
                    return wrong;
                }
                if (and) {
                    law.add(Law.AND);
                }
                and = kind[next] == AND;
                if (!and) {
                    if (or) {
                        law.add(Law.OR);
                    }
                    or = kind[next] == OR;
                    if (!or) {
                        return 0;
                    }
                }
                next++;
            }
            return CANT_STAND;
        }

        private int unit(int depth) {
            boolean negated = kind[next] == NOT;
            if (negated || kind[next] == '[') {
                if (depth >= DEEPEST) {
                    return TOO_MANY_TOLD;
                }
                next++;
                int wrong = negated ? unit(depth + 1) : truth(depth + 1);
                if (wrong != 0) {
                    return wrong;
                }
                if (!negated) {
                    return take(']');
                }
                law.add(Law.NOT);
                return 0;
            }
            int wrong = sum(depth);
            if (wrong != 0) {
                return wrong;
            }
            int sign = comparison(kind[next]);
            if (sign == NONE) {
                return CANT_STAND;
            }
            next++;
            wrong = sum(depth);
            law.add(sign);
            return wrong;
        }

        private static int comparison(int sign) {
            switch (sign) {
                case '=':
                    return Law.EQUAL;
                case '<':
                    return Law.LESS;
                case '>':
                    return Law.MORE;
                default:
                    return NONE;
            }
        }

        private int sum(int depth) {
            boolean times = false;
            int join = NONE;
            for (int i = 0; i < TAPE; i++) {
                int wrong = atom(depth);
                if (wrong != 0) {
                    return wrong;
                }
                if (times) {
                    law.add(Law.TIMES);
                }
                times = kind[next] == '*';
                if (!times) {
                    if (join != NONE) {
                        law.add(join);
                    }
                    join = kind[next] == '+' ? Law.PLUS : kind[next] == '-' ? Law.MINUS : NONE;
                    if (join == NONE) {
                        return 0;
                    }
                }
                next++;
            }
            return CANT_STAND;
        }

        private int atom(int depth) {
            int told = kind[next];
            if (told == NUMBER) {
                law.add(value[next]);
                next++;
                return 0;
            }
            if (told >= WHO && told <= TO) {
                law.add(Law.NAMES + told - WHO);
                next++;
                return 0;
            }
            if (told != '(') {
                return CANT_STAND;
            }
            if (depth >= DEEPEST) {
                return TOO_MANY_TOLD;
            }
            next++;
            int wrong = sum(depth + 1);
            return wrong != 0 ? wrong : take(')');
        }
    }

    /** Deeds, done in a world if they can be; each tells 0, or why not. */
    private static final class Deeds {
        private static final int NO_SUCH_ONE = 1;
        private static final int ELSEWHERE = 2;
        private static final int IS_SHUT = 3;
        private static final int NOT_LET = 4;
        private static final int TOO_FEW = 5;
        private static final int FORGING = 3;

        final Land land;
        final Laws laws;
        int stoppedBy;
        int drawn;

        Deeds(Land land, Laws laws) {
            this.land = land;
            this.laws = laws;
        }

        int whyNotGo(World world, int p, int r) {
            if (!land.hasPerson(p) || !land.hasRoad(r)) {
                return NO_SUCH_ONE;
            }
            int end = land.across(r, world.place[p]);
            if (end == NONE) {
                return ELSEWHERE;
            }
            if ((world.shut >> r & 1) == 1) {
                return IS_SHUT;
            }
            if (!land.isBridge(r)) {
                return 0;
            }
            int price = laws.price(p, r, end, world.been[p], world.papers[p]);
            if (price == NONE) {
                return NOT_LET;
            }
            return price > world.papers[p] ? TOO_FEW : 0;
        }

        int tryGo(World world, int p, int r) {
            int whyNot = whyNotGo(world, p, r);
            if (whyNot != 0) {
                return whyNot;
            }
            int end = land.across(r, world.place[p]);
            if (land.isBridge(r)) {
                world.papers[p] -= laws.price(p, r, end, world.been[p], world.papers[p]);
            }
            world.place[p] = end;
            world.been[p] |= 1 << end;
            world.day[p] += land.length[r];
            if (land.errand[p] == end && world.day[p] <= land.by[p]) {
                world.done |= 1 << p;
            }
            return 0;
        }

        int tryGive(World world, int p, int q, int n) {
            if (!land.hasPerson(p) || !land.hasPerson(q) || p == q || n < 1 || n > MOST_PAPERS) {
                return NO_SUCH_ONE;
            }
            if (world.place[p] != world.place[q] || world.papers[p] < n || world.papers[q] + n > MOST_PAPERS) {
                return ELSEWHERE;
            }
            world.papers[p] -= n;
            world.papers[q] += n;
            return 0;
        }

        int tryForge(World world, int p) {
            if (!land.hasPerson(p)) {
                return NO_SUCH_ONE;
            }
            if (world.papers[p] >= MOST_PAPERS) {
                return ELSEWHERE;
            }
            world.papers[p]++;
            world.day[p] += FORGING;
            return 0;
        }

        int tryShut(World world, int r) {
            if (!land.hasRoad(r)) {
                return NO_SUCH_ONE;
            }
            world.shut ^= 1 << r;
            return 0;
        }

        void pass(World world, int n) {
            for (int p = 0; p < land.people; p++) {
                world.day[p] += n;
            }
        }

        /** A deed as a tray tells it. */
        private int tryDeed(World world, long told) {
            if (told == NONE) {
                pass(world, 1);
                return 0;
            }
            if (told < 0 || told > 3019) {
                return NO_SUCH_ONE;
            }
            int deed = (int) told;
            if (deed < 600) {
                return tryGo(world, deed / 100, deed % 100);
            }
            if (deed >= 1000 && deed < 2000) {
                return tryGive(world, (deed - 1000) / 100, deed / 10 % 10, deed % 10);
            }
            if (deed >= 2000 && deed < 2010) {
                return tryForge(world, deed - 2000);
            }
            return deed >= 3000 ? tryShut(world, deed - 3000) : NO_SUCH_ONE;
        }

        /** The deeds of a tray till one can't be: how many; why it stopped is kept. */
        int doAll(World world, Trays trays, int tray) {
            stoppedBy = 0;
            for (int i = 0; i < trays.size[tray]; i++) {
                stoppedBy = tryDeed(world, trays.number[tray][i]);
                if (stoppedBy != 0) {
                    return i;
                }
            }
            return trays.size[tray];
        }

        private int draw(int below) {
            drawn = 1103515245 * drawn + 12345;
            return (drawn >>> 16) % Math.max(1, below);
        }

        /** A year's deed is told as a tray would tell it. */
        private int drawDeed() {
            int kind = draw(5);
            if (kind == 0) {
                return NONE;
            }
            if (kind == 4) {
                return 3000 + draw(ROADS);
            }
            int p = draw(PEOPLE);
            return kind == 3 ? 2000 + p : 100 * p + draw(ROADS);
        }

        int liveYear(World world, int seed, int times) {
            drawn = seed;
            int done = 0;
            for (int i = 0; i < times; i++) {
                if (tryDeed(world, drawDeed()) == 0) {
                    done++;
                }
            }
            return done;
        }
    }

    /** How the world was before each of the latest calls that changed it. */
    private static final class Past {
        private static final int LONGEST = 10;

        final World[] kept = new World[LONGEST];
        int count;
        int next;

        Past() {
            for (int i = 0; i < LONGEST; i++) {
                kept[i] = new World();
            }
        }

        void forget() {
            count = 0;
        }

        void keep(World world) {
            kept[next].copyFrom(world);
            next = (next + 1) % LONGEST;
            count = Math.min(count + 1, LONGEST);
        }

        void bringBack(World world, int n) {
            next = (next + LONGEST - n) % LONGEST;
            world.copyFrom(kept[next]);
            count -= n;
        }
    }

    /**
     * The soonest ways of one person to all places. A state is where it can be by a way: bridges gone over
     * (only for a round), places it has been at, papers it has spent, its place. None of the first three ever
     * becomes less, so that rows of one of each are settled in the order of their numbers.
     */
    private static final class Search {
        private static final int ROW = PLACES;
        private static final int BEEN_SETS = 64;
        private static final int ROWS = BEEN_SETS * PAPER_COUNTS;
        private static final int STATES = ROWS * ROW;
        private static final int MASKS = 16;
        private static final int FAR = 1000000000;
        /** Of 6 places in each of at most 15 rows: 5 new places, 9 papers, and the first. */
        private static final int LONGEST_WAY = 96;

        final Land land;
        final Laws laws;
        int who;
        int at;
        int been;
        int papers;
        int closed;
        int waived;
        int masks;
        final int[] far = new int[MASKS * STATES];
        final int[] came = new int[STATES];
        final int[] seenIn = new int[MASKS * ROWS];
        int turn;
        final int[] end = new int[PLACES];
        int crossed;
        int loopDays;
        int loopEnd;
        final int[] spelled = new int[LONGEST_WAY];
        int spelledCount;
        final long[][] tally = new long[2][STATES];

        Search(Land land, Laws laws) {
            this.land = land;
            this.laws = laws;
        }

        /** A search from how a person is now; a question may change that before it spreads. */
        void startAt(World world, int p) {
            who = p;
            at = world.place[p];
            been = world.been[p];
            papers = world.papers[p];
            closed = world.shut;
            waived = NONE;
            masks = 1;
        }

        private static int state(int mask, int been, int papers, int place) {
            return ((mask * BEEN_SETS + been) * PAPER_COUNTS + MOST_PAPERS - papers) * ROW + place;
        }

        void spread() {
            turn++;
            Arrays.fill(end, NONE);
            crossed = 0;
            loopDays = FAR;
            loopEnd = NONE;
            int first = state(0, been, papers, at);
            openRow(first / ROW);
            far[first] = 0;
            int last = masks == 1 ? PAPER_COUNTS << land.places : masks * ROWS;
            for (int row = first / ROW; row < last; row++) {
                int settled = 0;
                for (int i = 0; i < PLACES && seenIn[row] == turn; i++) {
                    int place = nearest(row * ROW, settled);
                    if (place == NONE) {
                        break;
                    }
                    settled |= 1 << place;
                    leave(row * ROW + place);
                }
            }
        }

        /** Rows of an earlier search are emptied only once this one comes to them. */
        private void openRow(int row) {
            if (seenIn[row] != turn) {
                seenIn[row] = turn;
                for (int place = 0; place < ROW; place++) {
                    far[row * ROW + place] = FAR;
                }
            }
        }

        private int nearest(int base, int settled) {
            int best = NONE;
            for (int place = 0; place < land.places; place++) {
                boolean open = (settled >> place & 1) == 0 && far[base + place] != FAR;
                if (open && (best == NONE || far[base + place] < far[base + best])) {
                    best = place;
                }
            }
            return best;
        }

        private void leave(int from) {
            if (masks == 1) {
                noteEnd(from);
            }
            for (int r = 0; r < land.roads; r++) {
                int to = behind(from, r);
                if (to != NONE) {
                    int days = far[from] + land.length[r];
                    if (masks == 1 && land.isBridge(r)) {
                        noteBridge(from, r, to, days);
                    }
                    reachState(from, r, to, days);
                }
            }
        }

        /** The state behind a road, or NONE if it can't be gone. */
        private int behind(int from, int r) {
            int place = land.across(r, from % ROW);
            if (place == NONE || (closed >> r & 1) == 1) {
                return NONE;
            }
            int has = MOST_PAPERS - from / ROW % PAPER_COUNTS;
            int seen = from / (ROW * PAPER_COUNTS) % BEEN_SETS;
            int mask = from / STATES;
            int price = 0;
            if (land.isBridge(r) && r != waived) {
                price = laws.price(who, r, place, seen, has);
                if (price == NONE || price > has) {
                    return NONE;
                }
                if (masks > 1) {
                    mask |= 1 << land.bridgesBefore(r);
                }
            }
            return state(mask, seen | 1 << place, has - price, place);
        }

        private void reachState(int from, int r, int to, int days) {
            openRow(to / ROW);
            if (days > far[to]) {
                return;
            }
            if (days == far[to] && (masks > 1 || !isAhead(from * ROADS + r, came[to]))) {
                return;
            }
            far[to] = days;
            if (masks == 1) {
                came[to] = from * ROADS + r;
            }
        }

        /**
         * Whether the way that ends by step a (a state, and the road from it) is before that by step b, both
         * of as many days: going back along both they meet where they part, and there the lesser road is first.
         */
        private boolean isAhead(int a, int b) {
            for (int i = 0; i < 2 * LONGEST_WAY && a / ROADS != b / ROADS; i++) {
                if (far[a / ROADS] >= far[b / ROADS]) {
                    a = came[a / ROADS];
                } else {
                    b = came[b / ROADS];
                }
            }
            return a % ROADS < b % ROADS;
        }

        private void noteEnd(int state) {
            int place = state % ROW;
            int old = end[place];
            if (old == NONE || far[state] < far[old]
                    || far[state] == far[old] && isAhead(state * ROADS, old * ROADS)) {
                end[place] = state;
            }
        }

        private void noteBridge(int from, int r, int to, int days) {
            crossed |= 1 << r;
            int seen = from / (ROW * PAPER_COUNTS) % BEEN_SETS;
            boolean back = (seen >> to % ROW & 1) == 1;
            if (back || days > loopDays || days == loopDays && !isAhead(from * ROADS + r, loopEnd)) {
                return;
            }
            loopDays = days;
            loopEnd = from * ROADS + r;
        }

        int daysTo(int place) {
            return end[place] == NONE ? NONE : far[end[place]];
        }

        int papersBehind(int place) {
            return end[place] == NONE ? NONE : MOST_PAPERS - end[place] / ROW % PAPER_COUNTS;
        }

        int reached() {
            int bits = 0;
            for (int place = 0; place < land.places; place++) {
                if (end[place] != NONE) {
                    bits |= 1 << place;
                }
            }
            return bits;
        }

        int daysToLoophole() {
            return loopEnd == NONE ? NONE : loopDays;
        }

        void spellTo(int place) {
            spelledCount = 0;
            if (end[place] != NONE && far[end[place]] > 0) {
                spellBack(came[end[place]]);
            }
        }

        void spellLoophole() {
            spelledCount = 0;
            if (loopEnd != NONE) {
                spellBack(loopEnd);
            }
        }

        /** The roads up to a step, the last one first. */
        private void spellBack(int step) {
            boolean more = true;
            for (int i = 0; i < LONGEST_WAY && more; i++) {
                spelled[i] = step % ROADS;
                spelledCount = i + 1;
                more = far[step / ROADS] > 0;
                step = more ? came[step / ROADS] : step;
            }
        }

        int spelledRoad(int i) {
            return i < 0 || i >= spelledCount ? NONE : spelled[spelledCount - 1 - i];
        }

        /** Roads of the soonest way to a place, as bits. */
        int roadsTo(int place) {
            spellTo(place);
            int bits = 0;
            for (int i = 0; i < spelledCount; i++) {
                bits |= 1 << spelled[i];
            }
            return bits;
        }

        int daysRound() {
            if (land.bridges == 0) {
                return 0;
            }
            masks = 1 << Integer.bitCount(land.bridges);
            spread();
            int best = FAR;
            for (int row = (masks - 1) * ROWS; row < masks * ROWS; row++) {
                if (seenIn[row] == turn) {
                    best = Math.min(best, far[row * ROW + at]);
                }
            }
            return best == FAR ? NONE : best;
        }

        long waysTo(int place, int n) {
            Arrays.fill(tally[0], 0);
            tally[0][state(0, been, papers, at)] = 1;
            for (int i = 0; i < n; i++) {
                tallyStep(tally[i % 2], tally[1 - i % 2]);
            }
            long all = 0;
            for (int state = place; state < STATES; state += ROW) {
                all += tally[n % 2][state];
            }
            return all;
        }

        private void tallyStep(long[] now, long[] then) {
            Arrays.fill(then, 0);
            for (int state = 0; state < STATES; state++) {
                for (int r = 0; r < land.roads && now[state] != 0; r++) {
                    int to = behind(state, r);
                    if (to != NONE) {
                        then[to] += now[state];
                    }
                }
            }
        }
    }

    /** Questions about what would be, and about the soonest ways of several. */
    private static final class Choices {
        final Land land;
        final World world;
        final Search search;
        final int[] firstDays = new int[PLACES];
        final int[] used = new int[PEOPLE];
        long dryAbove;
        long dryBelow;

        Choices(Land land, World world, Search search) {
            this.land = land;
            this.world = world;
            this.search = search;
        }

        void seek(int p) {
            search.startAt(world, p);
            search.spread();
        }

        /** A road that is not on the soonest way can't be needed. */
        int roadsNeeded(int p, int place) {
            seek(p);
            int onWay = search.roadsTo(place);
            int needed = 0;
            for (int r = 0; r < land.roads; r++) {
                if ((onWay >> r & 1) == 1) {
                    search.closed = world.shut | 1 << r;
                    search.spread();
                    needed |= search.daysTo(place) == NONE ? 1 << r : 0;
                }
            }
            return needed;
        }

        int fewestPapers(int p, int place) {
            search.startAt(world, p);
            for (int n = 0; n <= MOST_PAPERS; n++) {
                search.papers = n;
                search.spread();
                if (search.daysTo(place) != NONE) {
                    return n;
                }
            }
            return NONE;
        }

        int bestWaiver(int p, int place) {
            seek(p);
            int best = search.daysTo(place);
            int road = NONE;
            for (int r = 0; r < land.roads; r++) {
                if (land.isBridge(r)) {
                    search.waived = r;
                    search.spread();
                    int days = search.daysTo(place);
                    if (days != NONE && (best == NONE || days < best)) {
                        best = days;
                        road = r;
                    }
                }
            }
            return road;
        }

        boolean hasToDo(int p) {
            return land.errand[p] != NONE && (world.done >> p & 1) == 0;
        }

        /** How many days a person sought could wait, or NONE if its errand can't be done in time. */
        int daysToWait(int p) {
            int days = search.daysTo(land.errand[p]);
            if (days == NONE) {
                return NONE;
            }
            return Math.max(NONE, land.by[p] - world.day[p] - days);
        }

        /** Errands done or in time, as bits; the roads of each soonest way by which one is are kept. */
        int timely() {
            int bits = world.done;
            Arrays.fill(used, 0);
            for (int p = 0; p < land.people; p++) {
                if (hasToDo(p)) {
                    search.startAt(world, p);
                    search.spread();
                    if (daysToWait(p) != NONE) {
                        bits |= 1 << p;
                        used[p] = search.roadsTo(land.errand[p]);
                    }
                }
            }
            return bits;
        }

        int firstHelped() {
            for (int p = 0; p < land.people; p++) {
                if (hasToDo(p) && world.papers[p] < MOST_PAPERS) {
                    seek(p);
                    boolean late = daysToWait(p) == NONE;
                    search.papers++;
                    if (late) {
                        search.spread();
                    }
                    if (late && daysToWait(p) != NONE) {
                        return p;
                    }
                }
            }
            return NONE;
        }

        int worstRoad() {
            timely();
            int most = 0;
            int road = NONE;
            for (int r = 0; r < land.roads; r++) {
                int late = lateWithout(r);
                if (late > most) {
                    most = late;
                    road = r;
                }
            }
            return road;
        }

        /** How many that are in time would not be; only who would go along a road can be late without it. */
        private int lateWithout(int r) {
            int late = 0;
            for (int p = 0; p < land.people; p++) {
                if ((used[p] >> r & 1) == 1) {
                    search.startAt(world, p);
                    search.closed |= 1 << r;
                    search.spread();
                    late += daysToWait(p) == NONE ? 1 : 0;
                }
            }
            return late;
        }

        /** The days times PLACES, and the place, or NONE. */
        int soonestMeeting(int p, int q) {
            seek(p);
            for (int place = 0; place < land.places; place++) {
                firstDays[place] = search.daysTo(place);
            }
            seek(q);
            int best = NONE;
            for (int place = 0; place < land.places; place++) {
                int days = search.daysTo(place);
                if (days != NONE && firstDays[place] != NONE) {
                    int meeting = Math.max(days, firstDays[place]) * PLACES + place;
                    best = best == NONE ? meeting : Math.min(best, meeting);
                }
            }
            return best;
        }

        /** How likely a way that was sought is dry, in parts of 10 for each of its roads. */
        void weighFloods(int place) {
            int roads = search.roadsTo(place);
            dryAbove = 1;
            dryBelow = 1;
            for (int r = 0; r < land.roads; r++) {
                if ((roads >> r & 1) == 1) {
                    dryAbove *= 10 - land.flood[r];
                    dryBelow *= 10;
                }
            }
        }

        /** Below there are but twos and fives. */
        void lowerFloods() {
            for (int i = 0; i < ROADS && dryBelow % 2 == 0 && dryAbove % 2 == 0; i++) {
                dryBelow /= 2;
                dryAbove /= 2;
            }
            for (int i = 0; i < ROADS && dryBelow % 5 == 0 && dryAbove % 5 == 0; i++) {
                dryBelow /= 5;
                dryAbove /= 5;
            }
        }

        int driestPlace(int here) {
            long most = NONE;
            int driest = NONE;
            for (int place = 0; place < land.places; place++) {
                if (place != here && search.daysTo(place) != NONE) {
                    weighFloods(place);
                    long dry = dryAbove * (1000000000000L / Math.max(1, dryBelow));
                    if (dry > most) {
                        most = dry;
                        driest = place;
                    }
                }
            }
            return driest;
        }
    }

    /** Where a person can have been by what it was answered at bridges. */
    private static final class Answers {
        private static final int MOST = 12;

        final Land land;
        final World world;
        final Laws laws;
        /** Bit s: the set of places whose bits are s. */
        long sets;

        Answers(Land land, World world, Laws laws) {
            this.land = land;
            this.world = world;
            this.laws = laws;
        }

        /** A code, or 0, the sets being found. */
        int weigh(Trays trays, int tray, int p) {
            if (!land.hasPerson(p) || !trays.isTray(tray)) {
                return NO_SUCH;
            }
            if (trays.isMissing(tray)) {
                return MISSING;
            }
            int size = trays.size[tray];
            if (size < 1 || size > MOST) {
                return TOO_MANY;
            }
            for (int i = 0; i < size; i++) {
                if (!isAnswer(trays.number[tray][i])) {
                    return CANT_BE;
                }
            }
            sets = setsWith(1 << land.born[p] | 1 << world.place[p]);
            for (int i = 0; i < size; i++) {
                int answer = (int) trays.number[tray][i];
                long let = setsLet(p, answer / 100, answer / 10 % 10);
                sets &= answer % 10 == 1 ? let : ~let;
            }
            return 0;
        }

        private boolean isAnswer(long told) {
            if (told < 0 || told >= 100L * land.roads) {
                return false;
            }
            return told % 10 < 2 && told / 10 % 10 < 2 && land.isBridge((int) (told / 100));
        }

        private long setsWith(int places) {
            long with = 0;
            for (int set = 0; set < 1 << land.places; set++) {
                if ((set & places) == places) {
                    with |= 1L << set;
                }
            }
            return with;
        }

        /** Those of the sets by which a person would be let over a bridge to an end. */
        private long setsLet(int p, int r, int side) {
            int end = side == 0 ? land.to[r] : land.from[r];
            long let = 0;
            for (int set = 0; set < 1 << land.places; set++) {
                boolean among = (sets >> set & 1) == 1;
                if (among && laws.price(p, r, end, set, world.papers[p]) != NONE) {
                    let |= 1L << set;
                }
            }
            return let;
        }

        int common() {
            int places = sets == 0 ? 0 : (1 << land.places) - 1;
            for (int set = 0; set < 1 << land.places; set++) {
                if ((sets >> set & 1) == 1) {
                    places &= set;
                }
            }
            return places;
        }

        int bestQuestion(int p) {
            int best = NONE;
            int question = NONE;
            for (int i = 0; i < 2 * land.roads && sets != 0; i++) {
                if (land.isBridge(i / 2)) {
                    int let = Long.bitCount(setsLet(p, i / 2, i % 2));
                    int lesser = Math.min(let, Long.bitCount(sets) - let);
                    if (lesser > best) {
                        best = lesser;
                        question = 10 * (i / 2) + i % 2;
                    }
                }
            }
            return question;
        }
    }

    private static final class Trays {
        static final int LONGEST = 40;
        private static final int TRAYS = 4;

        final long[][] number = new long[TRAYS][LONGEST];
        final int[] size = {NONE, NONE, NONE, NONE};
        final int[] sort = new int[TRAYS];

        boolean isTray(int tray) {
            return tray >= 0 && tray < TRAYS;
        }

        boolean isMissing(int tray) {
            return size[tray] == NONE;
        }

        void make(int tray, int ofSort, int n) {
            size[tray] = n;
            sort[tray] = ofSort;
            Arrays.fill(number[tray], 0);
        }

        void put(int tray, int i, long v) {
            switch (sort[tray]) {
                case 0:
                    number[tray][i] = (byte) v;
                    break;
                case 1:
                    number[tray][i] = (short) v;
                    break;
                case 2:
                    number[tray][i] = (int) v;
                    break;
                default:
                    number[tray][i] = v;
                    break;
            }
        }
    }
}
