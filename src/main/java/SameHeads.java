import java.util.Arrays;

/** A waxworks with more people than heads; the document's promises say what each call answers. */
public final class SameHeads {
    private static final int BEYOND = -1000001;
    private static final int FULL = BEYOND - 1;
    private static final int KIND = BEYOND - 2;
    private static final int NONE = BEYOND - 3;
    private static final int STATE = BEYOND - 4;
    private static final int MISSING = BEYOND - 5;
    private static final int SIZE = BEYOND - 6;
    private static final int FINDINGS = 7;

    private static final int FACES = 6;
    private static final int ROOMS = 6;
    private static final int PARTS = 10;
    private static final int VISITORS = 4;
    private static final int SPOTS = 10;
    private static final int SHEETS = 4;
    private static final int NUMBERS = 40;
    private static final int BYTES = 120;

    private static final int STORE = -1;
    private static final int NOBODY = -1;
    private static final int NOTHING = -1;
    private static final int MOST_LOOKS = 255;
    private static final int MOST_WAX = 60;
    private static final int FIRST_WAX = 10;
    private static final int MOST_CHANCE = 99;
    private static final int MOST_LIKE = 99;
    private static final int MOST_PACE = 20;
    private static final int MOST_WAIT = 60;
    private static final int MOST_PAPERS = 12;
    private static final int LAST_MINUTE = 9999;
    private static final int LAST_PLANNED = 9000;
    /** A minute that is behind all that any visitor's round reaches. */
    private static final int NEVER = 1000000;

    private static final int[] LEAST_TRAIT = {0, 0, 1, STORE};
    private static final int[] MOST_TRAIT = {Kinds.GLOVED, MOST_LOOKS, MOST_WAX, ROOMS - 1};

    private final House house = new House();
    private final House kept = new House();
    private final House draft = new House();
    private final Givings givings = new Givings();
    private final Tellings tellings = new Tellings();
    private final Tape tape = new Tape();
    private final Reader reader = new Reader(tape, draft);
    private final Sheet[] sheets = new Sheet[SHEETS];
    private final int[] tally = new int[FINDINGS];
    private boolean keeps;

    public SameHeads() {
        for (int s = 0; s < SHEETS; s++) {
            sheets[s] = new Sheet();
        }
    }

    // ---- parts, faces, rooms

    public int part(int kind) {
        if (!isKind(kind)) {
            return finding(BEYOND);
        }
        if (house.parts >= PARTS) {
            return finding(FULL);
        }
        return house.addPart(kind, 0, FIRST_WAX, STORE);
    }

    public int of(int part, int what) {
        int[] row = house.traits(what);
        if (!house.hasPart(part) || row == null) {
            return finding(BEYOND);
        }
        return row[part];
    }

    public int change(int part, int what, int v) {
        int[] row = house.traits(what);
        if (!house.hasPart(part) || row == null || !within(v, LEAST_TRAIT[what], MOST_TRAIT[what])) {
            return finding(BEYOND);
        }
        int was = row[part];
        row[part] = v;
        return was;
    }

    public int face(int face, int what, int v) {
        if (!isFace(face) || !within(what, 0, 1) || !within(v, 0, what == 0 ? MOST_LOOKS : MOST_CHANCE)) {
            return finding(BEYOND);
        }
        int[] row = what == 0 ? house.faceLooks : house.chance;
        int was = row[face];
        row[face] = v;
        return was;
    }

    public int show(int room, int face) {
        if (!isRoom(room) || !(isFace(face) || face == NOBODY)) {
            return finding(BEYOND);
        }
        int was = house.shown[room];
        house.shown[room] = face;
        return was;
    }

    public int pace(int v) {
        if (!within(v, 1, MOST_PACE)) {
            return finding(BEYOND);
        }
        int was = house.pace;
        house.pace = v;
        return was;
    }

    public int room(int room, int what) {
        if (!isRoom(room)) {
            return finding(BEYOND);
        }
        switch (what) {
            case 0: return house.shown[room];
            case 1: return house.partsAt(room);
            case 2: return house.likeness(room);
            case 3: return house.visitorsIn(room);
            default: return finding(BEYOND);
        }
    }

    public int like(int part, int face) {
        if (!house.hasPart(part) || !isFace(face)) {
            return finding(BEYOND);
        }
        return house.likeTo(part, face);
    }

    public int carries(int part, int place) {
        if (!house.hasPart(part) || !isPlace(place)) {
            return finding(BEYOND);
        }
        if (house.place[part] == place) {
            return finding(STATE);
        }
        return house.minutesTo(part, place);
    }

    // ---- minutes

    public int visitor() {
        if (house.visitors >= VISITORS) {
            return finding(FULL);
        }
        return house.addVisitor();
    }

    public int seen(int visitor, int what) {
        if (!house.hasVisitor(visitor)) {
            return finding(BEYOND);
        }
        switch (what) {
            case 0: return house.roomOf(visitor);
            case 1: return house.sighted(visitor, 1);
            case 2: return house.sighted(visitor, 2);
            default: return finding(BEYOND);
        }
    }

    public int move(int part, int place) {
        if (!house.hasPart(part) || !isPlace(place)) {
            return finding(BEYOND);
        }
        if (house.place[part] == place || house.clock + house.minutesTo(part, place) > LAST_MINUTE) {
            return finding(STATE);
        }
        house.carry(part, place);
        return house.clock;
    }

    public int waits(int n) {
        if (!within(n, 1, MOST_WAIT)) {
            return finding(BEYOND);
        }
        if (house.clock + n > LAST_MINUTE) {
            return finding(STATE);
        }
        house.spend(n);
        return Integer.bitCount(house.sightedTwice());
    }

    public int now(int what) {
        switch (what) {
            case 0: return house.clock;
            case 1: return house.pace;
            case 2: return house.allLikeness();
            case 3: return house.visitorsThere();
            case 4: return house.partsAt(STORE);
            case 5: return house.sightedTwice();
            default: return finding(BEYOND);
        }
    }

    // ---- givings

    public int most() {
        return givings.bestWorth(house);
    }

    public int given(int room) {
        if (!isRoom(room)) {
            return finding(BEYOND);
        }
        return givings.headIn(house, room);
    }

    public int likest(int face) {
        if (!isFace(face)) {
            return finding(BEYOND);
        }
        if (house.parts == 0) {
            return finding(NONE);
        }
        return house.likestTo(face);
    }

    public int whom(int part) {
        if (!house.hasPart(part)) {
            return finding(BEYOND);
        }
        return house.likestOf(part);
    }

    public int missed(int part) {
        if (!house.hasPart(part)) {
            return finding(BEYOND);
        }
        return givings.lossOf(house, part);
    }

    public int recast(int part) {
        if (!house.hasPart(part)) {
            return finding(BEYOND);
        }
        if (!house.isHead(part)) {
            return finding(KIND);
        }
        return givings.bestLooks(house, part);
    }

    public int kindFor(int part) {
        if (!house.hasPart(part)) {
            return finding(BEYOND);
        }
        return givings.bestKind(house, part);
    }

    // ---- unseen moves

    public int unseen(int part, int place) {
        if (!house.hasPart(part) || !isPlace(place)) {
            return finding(BEYOND);
        }
        if (house.place[part] == place || house.clock > LAST_PLANNED) {
            return finding(STATE);
        }
        for (int wait = 0; wait <= MOST_WAIT; wait++) {
            if (house.staysUnseen(part, place, wait)) {
                return wait;
            }
        }
        return finding(NONE);
    }

    public int hidden(int place) {
        if (!isPlace(place)) {
            return finding(BEYOND);
        }
        if (house.clock > LAST_PLANNED) {
            return finding(STATE);
        }
        int set = 0;
        for (int part = 0; part < house.parts; part++) {
            if (house.place[part] != place && house.staysUnseen(part, place, 0)) {
                set |= 1 << part;
            }
        }
        return set;
    }

    public int empty() {
        return house.minutesTillEmpty();
    }

    // ---- papers, moulds

    public int worth(int looks, int what) {
        if (!within(looks, 0, MOST_LOOKS) || !within(what, 0, 1)) {
            return finding(BEYOND);
        }
        int chances = house.allChances();
        if (chances == 0) {
            return finding(NONE);
        }
        int favour = house.favour(looks);
        int divisor = commonDivisor(favour, chances);
        return (what == 0 ? favour : chances) / divisor;
    }

    public int next() {
        if (house.allChances() == 0) {
            return finding(NONE);
        }
        int best = 0;
        int most = -1;
        for (int looks = 0; looks <= MOST_LOOKS; looks++) {
            int favour = house.favour(looks);
            if (favour > most) {
                most = favour;
                best = looks;
            }
        }
        return best;
    }

    public int mould(int face) {
        if (!isFace(face)) {
            return finding(BEYOND);
        }
        if (house.parts == 0) {
            return finding(NONE);
        }
        return house.nearestMould(face);
    }

    public int cuts(int face) {
        if (!isFace(face)) {
            return finding(BEYOND);
        }
        if (house.parts == 0) {
            return finding(NONE);
        }
        return house.cutCost(house.nearestMould(face), face);
    }

    // ---- who was whom, fires

    public int fits(int s) {
        if (!isSheet(s)) {
            return finding(BEYOND);
        }
        if (sheets[s].isMissing()) {
            return finding(MISSING);
        }
        return tellings.allWays(house, sheets[s]);
    }

    public int maybe(int s, int face) {
        if (!isSheet(s)) {
            return finding(BEYOND);
        }
        if (sheets[s].isMissing()) {
            return finding(MISSING);
        }
        if (!isFace(face) || face >= sheets[s].size) {
            return finding(BEYOND);
        }
        return tellings.headsFor(house, sheets[s], face);
    }

    public int stand(int lost, int v) {
        if (!within(lost, 0, (1 << house.parts) - 1) || !within(v, 0, MOST_LIKE)) {
            return finding(BEYOND);
        }
        int set = 0;
        for (int face = 0; face < FACES; face++) {
            if ((house.headsLike(face, v) & ~lost) != 0) {
                set |= 1 << face;
            }
        }
        return set;
    }

    public int fire(int face, int v) {
        if (!isFace(face) || !within(v, 0, MOST_LIKE)) {
            return finding(BEYOND);
        }
        return house.headsLike(face, v);
    }

    // ---- draws

    public int papers(int n) {
        if (!within(n, 1, MOST_PAPERS)) {
            return finding(BEYOND);
        }
        for (int i = 0; i < n; i++) {
            int room = house.draw() % ROOMS;
            house.shown[room] = house.draw() % FACES;
        }
        return givings.bestWorth(house);
    }

    public int seed(int v) {
        int was = house.z;
        house.z = v;
        return was;
    }

    // ---- texts

    public int feed(int bytes, int n) {
        if (!within(n, 1, 4)) {
            return finding(BEYOND);
        }
        if (tape.length + n > BYTES) {
            return finding(FULL);
        }
        for (int i = n - 1; i >= 0; i--) {
            tape.append((byte) (bytes >> 8 * i));
        }
        return tape.length;
    }

    public int wipe() {
        int had = tape.length;
        tape.length = 0;
        return had;
    }

    public int text() {
        draft.become(house);
        int answer = reader.read();
        if (answer >= 0) {
            house.become(draft);
        }
        tape.length = 0;
        return answer;
    }

    // ---- spots, sheets

    public int hold(int spot, int part) {
        if (!isSpot(spot) || !(house.hasPart(part) || part == NOTHING)) {
            return finding(BEYOND);
        }
        house.held[spot] = part;
        return 1;
    }

    public int as(int spot, int kind) {
        if (!isSpot(spot) || !isKind(kind)) {
            return finding(BEYOND);
        }
        int part = house.held[spot];
        if (!house.hasPart(part)) {
            return finding(MISSING);
        }
        if (!Kinds.isUnder(house.kind[part], kind)) {
            return finding(KIND);
        }
        return part;
    }

    public int sheet(int s, int bits, int n) {
        if (!isSheet(s) || !(bits == 0 || bits == 8 || bits == 16 || bits == 32)) {
            return finding(BEYOND);
        }
        if (n < 0) {
            return finding(SIZE);
        }
        if (n > NUMBERS) {
            return finding(BEYOND);
        }
        sheets[s].begin(bits, n);
        return sheets[s].size;
    }

    public int write(int s, int i, int v) {
        if (!isSheet(s)) {
            return finding(BEYOND);
        }
        if (sheets[s].isMissing()) {
            return finding(MISSING);
        }
        if (!within(i, 0, sheets[s].size - 1)) {
            return finding(BEYOND);
        }
        sheets[s].put(i, v);
        return 1;
    }

    public int copy(int s, int from, int t, int to, int n) {
        if (!isSheet(s) || !isSheet(t)) {
            return finding(BEYOND);
        }
        if (sheets[s].isMissing() || sheets[t].isMissing()) {
            return finding(MISSING);
        }
        if (sheets[s].bits != sheets[t].bits) {
            return finding(KIND);
        }
        if (!sheets[s].hasRun(from, n) || !sheets[t].hasRun(to, n)) {
            return finding(BEYOND);
        }
        System.arraycopy(sheets[s].numbers, from, sheets[t].numbers, to, n);
        return n;
    }

    public int load(int s) {
        if (!isSheet(s)) {
            return finding(BEYOND);
        }
        if (sheets[s].isMissing()) {
            return finding(MISSING);
        }
        int came = 0;
        int most = Math.min(sheets[s].size, house.parts);
        while (came < most && within(sheets[s].numbers[came], 1, MOST_WAX)) {
            house.wax[came] = sheets[s].numbers[came];
            came++;
        }
        return came;
    }

    public int judge(int s) {
        if (!isSheet(s)) {
            return finding(BEYOND);
        }
        if (sheets[s].isMissing()) {
            return finding(MISSING);
        }
        for (int i = 0; i < sheets[s].size; i++) {
            if (!isRoom(i) || sheets[s].numbers[i] != house.likeness(i)) {
                return 1 + i;
            }
        }
        return 0;
    }

    // ---- images

    public int image() {
        kept.become(house);
        keeps = true;
        return 1;
    }

    public int undo() {
        if (!keeps) {
            return finding(NONE);
        }
        house.become(kept);
        return house.clock;
    }

    public int tear() {
        int had = keeps ? 1 : 0;
        keeps = false;
        return had;
    }

    public int count(int what) {
        switch (what) {
            case 0: return house.clock;
            case 1: return house.parts;
            case 2: return house.visitors;
            case 3: return Integer.bitCount(house.roomsShown());
            case 4: return house.allWax();
            case 5: return tape.length;
            case 6: return house.z;
            case 7: return house.spotsHeld();
            default: return finding(BEYOND);
        }
    }

    public int status(int which) {
        if (!within(which, -1, FINDINGS - 1)) {
            return finding(BEYOND);
        }
        if (which >= 0) {
            return tally[which];
        }
        int all = 0;
        for (int i = 0; i < FINDINGS; i++) {
            all += tally[i];
        }
        return all;
    }

    private int finding(int told) {
        int which = BEYOND - told;
        if (within(which, 0, FINDINGS - 1)) {
            tally[which]++;
        }
        return told;
    }

    private static boolean within(int v, int least, int most) {
        return v >= least && v <= most;
    }

    private static boolean isKind(int kind) {
        return within(kind, Kinds.PART, Kinds.GLOVED);
    }

    private static boolean isFace(int face) {
        return within(face, 0, FACES - 1);
    }

    private static boolean isRoom(int room) {
        return within(room, 0, ROOMS - 1);
    }

    private static boolean isPlace(int place) {
        return within(place, STORE, ROOMS - 1);
    }

    private static boolean isSpot(int spot) {
        return within(spot, 0, SPOTS - 1);
    }

    private static boolean isSheet(int s) {
        return within(s, 0, SHEETS - 1);
    }

    private static int commonDivisor(int a, int b) {
        int x = a;
        int y = b;
        // Both are below ten thousand: Euclid's rests are 0 long before a hundred steps.
        for (int i = 0; i < 100 && y != 0; i++) {
            int rest = x % y;
            x = y;
            y = rest;
        }
        return x == 0 ? 1 : x;
    }

    /** What each kind makes of looks and of steps. */
    private static final class Kinds {
        static final int PART = 0;
        static final int HEAD = 1;
        static final int WIGGED = 2;
        static final int CROWNED = 3;
        static final int BODY = 4;
        static final int HANDS = 5;
        static final int GLOVED = 6;
        private static final int LOOK_7 = 128;
        private static final int[] ABOVE = {-1, PART, HEAD, WIGGED, PART, PART, HANDS};

        static boolean isUnder(int kind, int top) {
            int k = kind;
            for (int level = 0; level <= GLOVED && k >= 0 && k < ABOVE.length; level++) {
                if (k == top) {
                    return true;
                }
                k = ABOVE[k];
            }
            return false;
        }

        static int unlike(int looks, int others) {
            return Integer.bitCount((looks ^ others) & MOST_LOOKS);
        }

        static int likeness(int kind, int looks, int faceLooks) {
            int alike = 8 - unlike(looks, faceLooks);
            switch (kind) {
                case HEAD: return 2 * alike;
                case WIGGED: return 2 * alike + 2;
                case CROWNED: return Math.max(0, 2 * alike + 2 + ((faceLooks & LOOK_7) != 0 ? 5 : -5));
                case BODY: return alike + 3;
                case HANDS: return alike / 2;
                case GLOVED: return Math.max(3, alike / 2);
                default: return alike;
            }
        }

        static int minutes(int kind, int steps, int wax) {
            switch (kind) {
                case WIGGED: return steps + 3;
                case CROWNED: return 2 * (steps + 3);
                case BODY: return steps + 1 + wax / 10;
                case HANDS:
                case GLOVED: return 1;
                default: return steps + 1;
            }
        }
    }

    /** All that an image keeps. */
    private static final class House {
        private static final int STORE_STEPS = 6;
        private static final int FIRST_PACE = 5;

        final int[] kind = new int[PARTS];
        final int[] looks = new int[PARTS];
        final int[] wax = new int[PARTS];
        final int[] place = new int[PARTS];
        final int[] faceLooks = new int[FACES];
        final int[] chance = new int[FACES];
        final int[] shown = new int[ROOMS];
        final int[] came = new int[VISITORS];
        /** For each visitor a row with the rooms, as a set, in which he has seen each part. */
        final int[] sights = new int[VISITORS * PARTS];
        final int[] held = new int[SPOTS];
        int parts;
        int visitors;
        int clock;
        int pace = FIRST_PACE;
        int z = 1;

        House() {
            Arrays.fill(chance, 1);
            Arrays.fill(shown, NOBODY);
            Arrays.fill(held, NOTHING);
        }

        void become(House other) {
            System.arraycopy(other.kind, 0, kind, 0, PARTS);
            System.arraycopy(other.looks, 0, looks, 0, PARTS);
            System.arraycopy(other.wax, 0, wax, 0, PARTS);
            System.arraycopy(other.place, 0, place, 0, PARTS);
            System.arraycopy(other.faceLooks, 0, faceLooks, 0, FACES);
            System.arraycopy(other.chance, 0, chance, 0, FACES);
            System.arraycopy(other.shown, 0, shown, 0, ROOMS);
            System.arraycopy(other.came, 0, came, 0, VISITORS);
            System.arraycopy(other.sights, 0, sights, 0, VISITORS * PARTS);
            System.arraycopy(other.held, 0, held, 0, SPOTS);
            parts = other.parts;
            visitors = other.visitors;
            clock = other.clock;
            pace = other.pace;
            z = other.z;
        }

        boolean hasPart(int part) {
            return within(part, 0, parts - 1);
        }

        boolean hasVisitor(int visitor) {
            return within(visitor, 0, visitors - 1);
        }

        boolean isHead(int part) {
            return Kinds.isUnder(kind[part], Kinds.HEAD);
        }

        int[] traits(int what) {
            switch (what) {
                case 0: return kind;
                case 1: return looks;
                case 2: return wax;
                case 3: return place;
                default: return null;
            }
        }

        /** The caller has looked whether there is place for one more. */
        int addPart(int newKind, int newLooks, int newWax, int newPlace) {
            kind[parts] = newKind;
            looks[parts] = newLooks;
            wax[parts] = newWax;
            place[parts] = newPlace;
            return parts++;
        }

        /** The caller has looked whether there is place for one more. */
        int addVisitor() {
            came[visitors] = clock;
            return visitors++;
        }

        int likeTo(int part, int face) {
            return Kinds.likeness(kind[part], looks[part], faceLooks[face]);
        }

        int minutesTo(int part, int to) {
            int from = place[part];
            int steps = from == STORE || to == STORE ? STORE_STEPS : Math.abs(from - to);
            return Kinds.minutes(kind[part], steps, wax[part]);
        }

        int partsAt(int somewhere) {
            int set = 0;
            for (int part = 0; part < parts; part++) {
                if (place[part] == somewhere) {
                    set |= 1 << part;
                }
            }
            return set;
        }

        int likeness(int room) {
            int face = shown[room];
            int together = 0;
            for (int part = 0; part < parts && isFace(face); part++) {
                if (place[part] == room) {
                    together += likeTo(part, face);
                }
            }
            return together;
        }

        int allLikeness() {
            int together = 0;
            for (int room = 0; room < ROOMS; room++) {
                together += likeness(room);
            }
            return together;
        }

        int roomsShown() {
            int set = 0;
            for (int room = 0; room < ROOMS; room++) {
                if (isFace(shown[room])) {
                    set |= 1 << room;
                }
            }
            return set;
        }

        /** The room that a visitor is in, or -1 if he is gone. */
        int roomOf(int visitor) {
            if (pace < 1) {
                return -1;
            }
            int room = (clock - came[visitor]) / pace;
            return isRoom(room) ? room : -1;
        }

        int visitorsIn(int room) {
            int set = 0;
            for (int visitor = 0; visitor < visitors; visitor++) {
                if (roomOf(visitor) == room) {
                    set |= 1 << visitor;
                }
            }
            return set;
        }

        int visitorsThere() {
            int set = 0;
            for (int room = 0; room < ROOMS; room++) {
                set |= visitorsIn(room);
            }
            return set;
        }

        int minutesTillEmpty() {
            int most = 0;
            for (int visitor = 0; visitor < visitors; visitor++) {
                most = Math.max(most, came[visitor] + ROOMS * pace - clock);
            }
            return most;
        }

        /** Whether a visitor is in a room as any minute begins, from one on and ahead of another. */
        boolean passes(int visitor, int room, int from, int till) {
            int enters = came[visitor] + room * pace;
            return isRoom(room) && Math.max(enters, from) < Math.min(enters + pace, till);
        }

        void spend(int minutes) {
            for (int visitor = 0; visitor < visitors; visitor++) {
                for (int part = 0; part < parts; part++) {
                    if (passes(visitor, place[part], clock, clock + minutes)) {
                        sights[visitor * PARTS + part] |= 1 << place[part];
                    }
                }
            }
            clock += minutes;
        }

        void carry(int part, int to) {
            int minutes = minutesTo(part, to);
            // Nobody sees what is in the store, nor what is nowhere: the one may stand for the other.
            place[part] = STORE;
            spend(minutes);
            place[part] = to;
        }

        /** Parts that a visitor has seen in so many rooms or more, as a set. */
        int sighted(int visitor, int least) {
            int set = 0;
            for (int part = 0; part < parts; part++) {
                if (Integer.bitCount(sights[visitor * PARTS + part]) >= least) {
                    set |= 1 << part;
                }
            }
            return set;
        }

        int sightedTwice() {
            int set = 0;
            for (int visitor = 0; visitor < visitors; visitor++) {
                set |= sighted(visitor, 2);
            }
            return set;
        }

        boolean staysUnseen(int part, int to, int wait) {
            int leaves = clock + wait;
            int arrives = leaves + minutesTo(part, to);
            for (int visitor = 0; visitor < visitors; visitor++) {
                int rooms = sights[visitor * PARTS + part];
                if (roomOf(visitor) >= 0 && Integer.bitCount(rooms) < 2) {
                    if (passes(visitor, place[part], clock, leaves)) {
                        rooms |= 1 << place[part];
                    }
                    if (passes(visitor, to, arrives, NEVER)) {
                        rooms |= 1 << to;
                    }
                    if (Integer.bitCount(rooms) >= 2) {
                        return false;
                    }
                }
            }
            return true;
        }

        int likestTo(int face) {
            int best = 0;
            for (int part = 1; part < parts; part++) {
                if (likeTo(part, face) > likeTo(best, face)) {
                    best = part;
                }
            }
            return best;
        }

        int likestOf(int part) {
            int best = 0;
            for (int face = 1; face < FACES; face++) {
                if (likeTo(part, face) > likeTo(part, best)) {
                    best = face;
                }
            }
            return best;
        }

        int allChances() {
            int together = 0;
            for (int face = 0; face < FACES; face++) {
                together += chance[face];
            }
            return together;
        }

        /** What a head of such looks is like on the whole, not yet divided by all chances. */
        int favour(int headLooks) {
            int together = 0;
            for (int face = 0; face < FACES; face++) {
                together += chance[face] * Kinds.likeness(Kinds.HEAD, headLooks, faceLooks[face]);
            }
            return together;
        }

        int cutCost(int part, int face) {
            return Kinds.unlike(looks[part], faceLooks[face]) * wax[part];
        }

        int nearestMould(int face) {
            int best = 0;
            for (int part = 1; part < parts; part++) {
                if (cutCost(part, face) < cutCost(best, face)) {
                    best = part;
                }
            }
            return best;
        }

        int headsLike(int face, int least) {
            int set = 0;
            for (int part = 0; part < parts; part++) {
                if (isHead(part) && likeTo(part, face) >= least) {
                    set |= 1 << part;
                }
            }
            return set;
        }

        int draw() {
            z = z * 1103515245 + 12345;
            return z >>> 8;
        }

        int allWax() {
            int together = 0;
            for (int part = 0; part < parts; part++) {
                together += wax[part];
            }
            return together;
        }

        int spotsHeld() {
            int spots = 0;
            for (int spot = 0; spot < SPOTS; spot++) {
                if (held[spot] != NOTHING) {
                    spots++;
                }
            }
            return spots;
        }
    }

    /** Heads given to rooms so that likeness is most. */
    private static final class Givings {
        private final int[] rate = new int[PARTS * ROOMS];
        /** For each set of rooms the most that the heads offered so far are worth in them. */
        private final int[] best = new int[1 << ROOMS];
        private int heads;
        private int rooms;

        int bestWorth(House house) {
            survey(house);
            return fill(rooms, heads);
        }

        int lossOf(House house, int part) {
            survey(house);
            return fill(rooms, heads) - fill(rooms, heads & ~(1 << part));
        }

        /** The head that a room has in the first best giving, or -1. */
        int headIn(House house, int wanted) {
            survey(house);
            int worth = fill(rooms, heads);
            int head = NOTHING;
            for (int room = 0; room <= wanted; room++) {
                head = NOTHING;
                if ((rooms & 1 << room) != 0) {
                    rooms &= ~(1 << room);
                    head = firstHead(room, worth);
                }
                if (head != NOTHING) {
                    heads &= ~(1 << head);
                    worth -= rate[head * ROOMS + room];
                }
            }
            return head;
        }

        int bestLooks(House house, int part) {
            survey(house);
            fill(rooms, heads & ~(1 << part));
            int bestOne = 0;
            int most = -1;
            for (int looks = 0; looks <= MOST_LOOKS; looks++) {
                int worth = worthWith(house, house.kind[part], looks);
                if (worth > most) {
                    most = worth;
                    bestOne = looks;
                }
            }
            return bestOne;
        }

        int bestKind(House house, int part) {
            survey(house);
            fill(rooms, heads & ~(1 << part));
            int bestOne = 0;
            int most = -1;
            for (int kind = Kinds.PART; kind <= Kinds.GLOVED; kind++) {
                int worth = worthWith(house, kind, house.looks[part]);
                if (worth > most) {
                    most = worth;
                    bestOne = kind;
                }
            }
            return bestOne;
        }

        private void survey(House house) {
            rooms = house.roomsShown();
            heads = 0;
            for (int part = 0; part < house.parts; part++) {
                if (house.isHead(part)) {
                    heads |= 1 << part;
                    for (int room = 0; room < ROOMS; room++) {
                        int face = house.shown[room];
                        rate[part * ROOMS + room] = isFace(face) ? house.likeTo(part, face) : 0;
                    }
                }
            }
        }

        /** The most that these heads are worth in these rooms; best tells it of each set among the rooms. */
        private int fill(int someRooms, int someHeads) {
            Arrays.fill(best, 0);
            for (int head = 0; head < PARTS; head++) {
                if ((someHeads & 1 << head) != 0) {
                    offer(someRooms, head);
                }
            }
            return best[someRooms];
        }

        private void offer(int someRooms, int head) {
            // Downwards, so that the sets with a room less don't have this head yet.
            for (int set = someRooms; set > 0; set--) {
                if ((set & ~someRooms) == 0) {
                    best[set] = worthIn(set, head);
                }
            }
        }

        private int worthIn(int set, int head) {
            int most = best[set];
            for (int room = 0; room < ROOMS; room++) {
                if ((set & 1 << room) != 0) {
                    most = Math.max(most, best[set & ~(1 << room)] + rate[head * ROOMS + room]);
                }
            }
            return most;
        }

        /** The least head that leaves a best giving for the rooms behind, or -1. */
        private int firstHead(int room, int worth) {
            for (int head = 0; head < PARTS; head++) {
                int others = heads & ~(1 << head);
                if (others != heads && rate[head * ROOMS + room] + fill(rooms, others) == worth) {
                    return head;
                }
            }
            return NOTHING;
        }

        /** The most with one part more than those that best knows of. */
        private int worthWith(House house, int kind, int looks) {
            int most = best[rooms];
            for (int room = 0; room < ROOMS && Kinds.isUnder(kind, Kinds.HEAD); room++) {
                int face = house.shown[room];
                if (isFace(face)) {
                    int like = Kinds.likeness(kind, looks, house.faceLooks[face]);
                    most = Math.max(most, best[rooms & ~(1 << room)] + like);
                }
            }
            return most;
        }
    }

    /** Heads told for the numbers of a sheet. */
    private static final class Tellings {
        /** For each part the faces, as a set, that it is like as the sheet says. */
        private final int[] told = new int[PARTS];
        /** For each set of faces, in how many ways the heads looked at so far tell them all. */
        private final int[] ways = new int[1 << FACES];

        int allWays(House house, Sheet sheet) {
            survey(house, sheet);
            return waysFor(facesOf(sheet), NOTHING);
        }

        int headsFor(House house, Sheet sheet, int face) {
            survey(house, sheet);
            int others = facesOf(sheet) & ~(1 << face);
            int set = 0;
            for (int part = 0; part < PARTS; part++) {
                if ((told[part] & 1 << face) != 0 && waysFor(others, part) > 0) {
                    set |= 1 << part;
                }
            }
            return set;
        }

        private static int facesOf(Sheet sheet) {
            return (1 << Math.min(sheet.size, FACES)) - 1;
        }

        private void survey(House house, Sheet sheet) {
            Arrays.fill(told, 0);
            for (int part = 0; part < house.parts; part++) {
                for (int face = 0; face < FACES && face < sheet.size && house.isHead(part); face++) {
                    if (house.likeTo(part, face) == sheet.numbers[face]) {
                        told[part] |= 1 << face;
                    }
                }
            }
        }

        private int waysFor(int faces, int without) {
            Arrays.fill(ways, 0);
            ways[0] = 1;
            for (int part = 0; part < PARTS; part++) {
                if (part != without && told[part] != 0) {
                    offer(faces, told[part]);
                }
            }
            return ways[faces];
        }

        private void offer(int faces, int toldOnes) {
            // Downwards, so that the sets with a face less don't have this head yet.
            for (int set = faces; set > 0; set--) {
                for (int face = 0; face < FACES && (set & ~faces) == 0; face++) {
                    if ((set & toldOnes & 1 << face) != 0) {
                        ways[set] += ways[set & ~(1 << face)];
                    }
                }
            }
        }
    }

    /** A row of numbers of 8, 16 or 32 bits; with 0 bits it is missing. */
    private static final class Sheet {
        final int[] numbers = new int[NUMBERS];
        int bits;
        int size;

        boolean isMissing() {
            return bits == 0;
        }

        void begin(int newBits, int n) {
            Arrays.fill(numbers, 0);
            bits = newBits;
            size = newBits == 0 ? 0 : n;
        }

        /** The caller has looked whether there is such a number. */
        void put(int i, int v) {
            numbers[i] = bits == 8 ? (byte) v : bits == 16 ? (short) v : v;
        }

        boolean hasRun(int from, int n) {
            // A difference of two numbers that aren't below 0 can't wrap around, as their sum could.
            return from >= 0 && n >= 0 && n <= size - from;
        }
    }

    /** The bytes of a text. */
    private static final class Tape {
        final byte[] bytes = new byte[BYTES];
        int length;

        /** The caller has looked whether there is place for one more. */
        void append(byte b) {
            bytes[length] = b;
            length++;
        }
    }

    /** Cuts the tape into tokens, and does to a house what they tell. */
    private static final class Reader {
        private static final int END = 0;
        private static final int WORD = 1;
        private static final int NUMBER = 2;
        private static final int SIGN = 3;
        private static final int BLANK = 4;
        private static final int OTHER = 5;
        private static final int MOST_NUMBER = 999;

        private final Tape tape;
        private final House house;
        private final int[] sort = new int[BYTES + 1];
        private final int[] start = new int[BYTES + 1];
        /** Of a number what it is, of a word how many letters it has. */
        private final int[] value = new int[BYTES + 1];
        private int tokens;
        private int at;

        Reader(Tape tape, House house) {
            this.tape = tape;
            this.house = house;
        }

        /** How many items there are, or -1 less the fault. */
        int read() {
            cut();
            at = 0;
            int items = 0;
            while (items < BYTES && readItem()) {
                items++;
                if (sort[at] == END) {
                    return items;
                }
                if (sort[at] != SIGN) {
                    return -1 - start[at];
                }
                at++;
            }
            return -1 - start[at];
        }

        private void cut() {
            tokens = 0;
            int before = BLANK;
            for (int i = 0; i < tape.length; i++) {
                int one = sortOf(tape.bytes[i]);
                boolean goesOn = one == before && (one == WORD || one == NUMBER);
                if (!goesOn && one != BLANK) {
                    begin(one, i);
                }
                if (one != BLANK) {
                    lengthen(tokens - 1, tape.bytes[i]);
                }
                before = one;
            }
            begin(END, tape.length);
        }

        private static int sortOf(int b) {
            if (b >= 'a' && b <= 'z') {
                return WORD;
            }
            if (b >= '0' && b <= '9') {
                return NUMBER;
            }
            return b == ';' ? SIGN : b == ' ' ? BLANK : OTHER;
        }

        private void begin(int newSort, int place) {
            if (tokens < sort.length) {
                sort[tokens] = newSort;
                start[tokens] = place;
                value[tokens] = 0;
                tokens++;
            }
        }

        private void lengthen(int token, int b) {
            if (token >= 0 && sort[token] == NUMBER) {
                // Kept just above the most, so that a long row of digits can't wrap around.
                value[token] = Math.min(MOST_NUMBER + 1, value[token] * 10 + b - '0');
            } else if (token >= 0) {
                value[token]++;
            }
        }

        private boolean readItem() {
            // The word of an eleventh part can't stand there, as any other word can't.
            for (int kind = Kinds.PART; kind <= Kinds.GLOVED && house.parts < PARTS; kind++) {
                if (takes(wordOf(kind))) {
                    return readPart(kind);
                }
            }
            if (takes("face")) {
                return readFace();
            }
            if (takes("show")) {
                return readShow();
            }
            return takes("pace") && readPace();
        }

        private static String wordOf(int kind) {
            switch (kind) {
                case Kinds.HEAD: return "head";
                case Kinds.WIGGED: return "wigged";
                case Kinds.CROWNED: return "crowned";
                case Kinds.BODY: return "body";
                case Kinds.HANDS: return "hands";
                case Kinds.GLOVED: return "gloved";
                default: return "part";
            }
        }

        private boolean readPart(int kind) {
            int part = house.addPart(kind, 0, FIRST_WAX, STORE);
            return mayTell("looks", house.looks, part, 0, MOST_LOOKS)
                && mayTell("wax", house.wax, part, 1, MOST_WAX)
                && mayTell("in", house.place, part, 0, ROOMS - 1);
        }

        private boolean readFace() {
            int face = takeNumber(0, FACES - 1);
            return isFace(face) && takes("looks")
                && tells(house.faceLooks, face, 0, MOST_LOOKS)
                && mayTell("chance", house.chance, face, 0, MOST_CHANCE);
        }

        private boolean readShow() {
            int room = takeNumber(0, ROOMS - 1);
            return isRoom(room) && tells(house.shown, room, 0, FACES - 1);
        }

        private boolean readPace() {
            int pace = takeNumber(1, MOST_PACE);
            if (pace < 0) {
                return false;
            }
            house.pace = pace;
            return true;
        }

        /** Without the word all is well too: the row stays as it is. */
        private boolean mayTell(String word, int[] row, int i, int least, int most) {
            return !takes(word) || tells(row, i, least, most);
        }

        private boolean tells(int[] row, int i, int least, int most) {
            int v = takeNumber(least, most);
            if (v < 0) {
                return false;
            }
            row[i] = v;
            return true;
        }

        /** The number that stands next, or -1 if none that is as told does. */
        private int takeNumber(int least, int most) {
            if (sort[at] != NUMBER || value[at] < least || value[at] > most) {
                return -1;
            }
            at++;
            return value[at - 1];
        }

        private boolean takes(String word) {
            if (sort[at] != WORD || value[at] != word.length()) {
                return false;
            }
            for (int i = 0; i < word.length(); i++) {
                if (tape.bytes[start[at] + i] != word.charAt(i)) {
                    return false;
                }
            }
            at++;
            return true;
        }
    }
}
