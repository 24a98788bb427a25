import java.util.ArrayList;
import java.util.Arrays;
import java.util.List;
import java.util.regex.Matcher;
import java.util.regex.Pattern;

/**
 * The document once more, in another and slower way: minutes go one by one, givings and tellings are tried one
 * by one, parts are objects whose classes stand under one another.
 */
public final class Model {
    static final int BEYOND = -1000001;
    static final int FULL = -1000002;
    static final int KIND = -1000003;
    static final int NONE = -1000004;
    static final int STATE = -1000005;
    static final int MISSING = -1000006;
    static final int SIZE = -1000007;

    /** Thrown where an act answers a finding. */
    static final class Finding extends RuntimeException {
        private static final long serialVersionUID = 1;
        final int told;

        Finding(int told) {
            super(null, null, false, false);
            this.told = told;
        }
    }

    static final class Fault extends RuntimeException {
        private static final long serialVersionUID = 1;
        final int place;

        Fault(int place) {
            super(null, null, false, false);
            this.place = place;
        }
    }

    static class Shape {
        int like(int looks, int face) {
            int same = 0;
            for (int b = 0; b < 8; b++) {
                if ((looks >> b & 1) == (face >> b & 1)) {
                    same++;
                }
            }
            return same;
        }

        int carries(int steps, int wax) {
            return steps + 1;
        }
    }

    static class Head extends Shape {
        @Override int like(int looks, int face) {
            return 2 * super.like(looks, face);
        }
    }

    static class Wigged extends Head {
        @Override int like(int looks, int face) {
            return super.like(looks, face) + 2;
        }

        @Override int carries(int steps, int wax) {
            return super.carries(steps, wax) + 2;
        }
    }

    static class Crowned extends Wigged {
        @Override int like(int looks, int face) {
            int as = super.like(looks, face);
            return face >= 128 ? as + 5 : Math.max(0, as - 5);
        }

        @Override int carries(int steps, int wax) {
            return 2 * super.carries(steps, wax);
        }
    }

    static class Body extends Shape {
        @Override int like(int looks, int face) {
            return super.like(looks, face) + 3;
        }

        @Override int carries(int steps, int wax) {
            return super.carries(steps, wax) + wax / 10;
        }
    }

    static class Hands extends Shape {
        @Override int like(int looks, int face) {
            return super.like(looks, face) / 2;
        }

        @Override int carries(int steps, int wax) {
            return 1;
        }
    }

    static class Gloved extends Hands {
        @Override int like(int looks, int face) {
            return Math.max(3, super.like(looks, face));
        }
    }

    static final Shape[] SHAPES = {
        new Shape(), new Head(), new Wigged(), new Crowned(), new Body(), new Hands(), new Gloved()
    };
    static final String[] NAMES = {"part", "head", "wigged", "crowned", "body", "hands", "gloved"};

    static final class World {
        /** kind, looks, wax, place. */
        List<int[]> parts = new ArrayList<>();
        int[] looks = new int[6];
        int[] chance = {1, 1, 1, 1, 1, 1};
        int[] shown = {-1, -1, -1, -1, -1, -1};
        int clock = 0;
        int pace = 5;
        int z = 1;
        List<Integer> came = new ArrayList<>();
        boolean[][][] saw = new boolean[4][10][6];
        int[] held = {-1, -1, -1, -1, -1, -1, -1, -1, -1, -1};

        World twin() {
            World w = new World();
            for (int[] p : parts) {
                w.parts.add(p.clone());
            }
            w.looks = looks.clone();
            w.chance = chance.clone();
            w.shown = shown.clone();
            w.clock = clock;
            w.pace = pace;
            w.z = z;
            w.came = new ArrayList<>(came);
            for (int v = 0; v < 4; v++) {
                for (int p = 0; p < 10; p++) {
                    w.saw[v][p] = saw[v][p].clone();
                }
            }
            w.held = held.clone();
            return w;
        }

        int like(int p, int f) {
            return SHAPES[parts.get(p)[0]].like(parts.get(p)[1], looks[f]);
        }

        boolean head(int p) {
            return SHAPES[parts.get(p)[0]] instanceof Head;
        }

        int carries(int p, int place) {
            int from = parts.get(p)[3];
            int steps = from < 0 || place < 0 ? 6 : from > place ? from - place : place - from;
            return SHAPES[parts.get(p)[0]].carries(steps, parts.get(p)[2]);
        }

        int where(int v) {
            int room = (clock - came.get(v)) / pace;
            return room > 5 ? -1 : room;
        }

        void minute() {
            for (int v = 0; v < came.size(); v++) {
                for (int p = 0; p < parts.size(); p++) {
                    int room = where(v);
                    if (room >= 0 && parts.get(p)[3] == room) {
                        saw[v][p][room] = true;
                    }
                }
            }
            clock++;
        }

        void move(int p, int place) {
            int minutes = carries(p, place);
            parts.get(p)[3] = -9;
            for (int i = 0; i < minutes; i++) {
                minute();
            }
            parts.get(p)[3] = place;
        }

        int times(int v, int p) {
            int n = 0;
            for (boolean b : saw[v][p]) {
                n += b ? 1 : 0;
            }
            return n;
        }

        int likeness(int room) {
            int sum = 0;
            for (int p = 0; p < parts.size(); p++) {
                if (shown[room] >= 0 && parts.get(p)[3] == room) {
                    sum += like(p, shown[room]);
                }
            }
            return sum;
        }

        int best(int room, int used, int[][] memo) {
            if (room == 6) {
                return 0;
            }
            if (memo[room][used] > 0) {
                return memo[room][used] - 1;
            }
            int best = best(room + 1, used, memo);
            for (int p = 0; p < parts.size() && shown[room] >= 0; p++) {
                if (head(p) && (used >> p & 1) == 0) {
                    best = Math.max(best, like(p, shown[room]) + best(room + 1, used | 1 << p, memo));
                }
            }
            memo[room][used] = best + 1;
            return best;
        }

        int best() {
            return best(0, 0, new int[6][1 << parts.size()]);
        }

        int draw() {
            z = z * 1103515245 + 12345;
            return z >>> 8;
        }
    }

    private World w = new World();
    private World kept = null;
    private byte[] tape = new byte[0];
    private final int[][] sheets = new int[4][];
    private final int[] bits = new int[4];
    private final int[] tally = new int[7];

    private void need(boolean ok, int finding) {
        if (!ok) {
            tally[BEYOND - finding]++;
            throw new Finding(finding);
        }
    }

    private static boolean in(int v, int a, int b) {
        return a <= v && v <= b;
    }

    private boolean has(int part) {
        return in(part, 0, w.parts.size() - 1);
    }

    public int part(int kind) {
        need(in(kind, 0, 6), BEYOND);
        need(w.parts.size() < 10, FULL);
        w.parts.add(new int[] {kind, 0, 10, -1});
        return w.parts.size() - 1;
    }

    public int of(int part, int what) {
        need(has(part) && in(what, 0, 3), BEYOND);
        return w.parts.get(part)[what];
    }

    public int change(int part, int what, int v) {
        need(has(part) && in(what, 0, 3), BEYOND);
        need(what != 0 || in(v, 0, 6), BEYOND);
        need(what != 1 || in(v, 0, 255), BEYOND);
        need(what != 2 || in(v, 1, 60), BEYOND);
        need(what != 3 || in(v, -1, 5), BEYOND);
        int was = w.parts.get(part)[what];
        w.parts.get(part)[what] = v;
        return was;
    }

    public int face(int face, int what, int v) {
        need(in(face, 0, 5) && in(what, 0, 1), BEYOND);
        need(what == 0 ? in(v, 0, 255) : in(v, 0, 99), BEYOND);
        int[] row = what == 0 ? w.looks : w.chance;
        int was = row[face];
        row[face] = v;
        return was;
    }

    public int show(int room, int face) {
        need(in(room, 0, 5) && in(face, -1, 5), BEYOND);
        int was = w.shown[room];
        w.shown[room] = face;
        return was;
    }

    public int pace(int v) {
        need(in(v, 1, 20), BEYOND);
        int was = w.pace;
        w.pace = v;
        return was;
    }

    public int room(int room, int what) {
        need(in(room, 0, 5) && in(what, 0, 3), BEYOND);
        int set = 0;
        if (what == 0) {
            return w.shown[room];
        }
        if (what == 2) {
            return w.likeness(room);
        }
        for (int i = 0; i < (what == 1 ? w.parts.size() : w.came.size()); i++) {
            if ((what == 1 ? w.parts.get(i)[3] : w.where(i)) == room) {
                set += 1 << i;
            }
        }
        return set;
    }

    public int like(int part, int face) {
        need(has(part) && in(face, 0, 5), BEYOND);
        return w.like(part, face);
    }

    public int carries(int part, int place) {
        need(has(part) && in(place, -1, 5), BEYOND);
        need(w.parts.get(part)[3] != place, STATE);
        return w.carries(part, place);
    }

    public int visitor() {
        need(w.came.size() < 4, FULL);
        w.came.add(w.clock);
        return w.came.size() - 1;
    }

    public int seen(int visitor, int what) {
        need(in(visitor, 0, w.came.size() - 1) && in(what, 0, 2), BEYOND);
        if (what == 0) {
            return w.where(visitor);
        }
        int set = 0;
        for (int p = 0; p < w.parts.size(); p++) {
            if (w.times(visitor, p) >= what) {
                set += 1 << p;
            }
        }
        return set;
    }

    public int move(int part, int place) {
        need(has(part) && in(place, -1, 5), BEYOND);
        need(w.parts.get(part)[3] != place, STATE);
        need(w.clock + w.carries(part, place) <= 9999, STATE);
        w.move(part, place);
        return w.clock;
    }

    private int twice() {
        int set = 0;
        for (int p = 0; p < w.parts.size(); p++) {
            for (int v = 0; v < w.came.size(); v++) {
                if (w.times(v, p) >= 2) {
                    set |= 1 << p;
                }
            }
        }
        return set;
    }

    public int waits(int n) {
        need(in(n, 1, 60), BEYOND);
        need(w.clock + n <= 9999, STATE);
        for (int i = 0; i < n; i++) {
            w.minute();
        }
        return Integer.bitCount(twice());
    }

    public int now(int what) {
        need(in(what, 0, 5), BEYOND);
        int sum = 0;
        switch (what) {
            case 0:
                return w.clock;
            case 1:
                return w.pace;
            case 2:
                for (int r = 0; r < 6; r++) {
                    sum += w.likeness(r);
                }
                return sum;
            case 3:
                for (int v = 0; v < w.came.size(); v++) {
                    sum += w.where(v) >= 0 ? 1 << v : 0;
                }
                return sum;
            case 4:
                for (int p = 0; p < w.parts.size(); p++) {
                    sum += w.parts.get(p)[3] == -1 ? 1 << p : 0;
                }
                return sum;
            default:
                return twice();
        }
    }

    public int most() {
        return w.best();
    }

    public int given(int room) {
        need(in(room, 0, 5), BEYOND);
        int[][] memo = new int[6][1 << w.parts.size()];
        int used = 0;
        int answer = -1;
        for (int r = 0; r <= room; r++) {
            int most = w.best(r, used, memo);
            answer = -1;
            for (int p = w.parts.size() - 1; p >= 0 && w.shown[r] >= 0; p--) {
                if (w.head(p) && (used >> p & 1) == 0
                    && w.like(p, w.shown[r]) + w.best(r + 1, used | 1 << p, memo) == most) {
                    answer = p;
                }
            }
            if (answer >= 0) {
                used |= 1 << answer;
            }
        }
        return answer;
    }

    public int likest(int face) {
        need(in(face, 0, 5), BEYOND);
        need(!w.parts.isEmpty(), NONE);
        int best = w.parts.size() - 1;
        for (int p = best; p >= 0; p--) {
            best = w.like(p, face) >= w.like(best, face) ? p : best;
        }
        return best;
    }

    public int whom(int part) {
        need(has(part), BEYOND);
        int best = 5;
        for (int f = 5; f >= 0; f--) {
            best = w.like(part, f) >= w.like(part, best) ? f : best;
        }
        return best;
    }

    public int missed(int part) {
        need(has(part), BEYOND);
        World less = w.twin();
        less.parts.remove(part);
        return w.best() - less.best();
    }

    public int recast(int part) {
        need(has(part), BEYOND);
        need(w.head(part), KIND);
        return bestOf(part, 1, 255);
    }

    public int kindFor(int part) {
        need(has(part), BEYOND);
        return bestOf(part, 0, 6);
    }

    private int bestOf(int part, int what, int last) {
        World other = w.twin();
        int best = -1;
        int most = -1;
        for (int v = 0; v <= last; v++) {
            other.parts.get(part)[what] = v;
            int worth = other.best();
            if (worth > most) {
                most = worth;
                best = v;
            }
        }
        return best;
    }

    private boolean slips(int part, int place, int wait) {
        World then = w.twin();
        for (int i = 0; i < wait; i++) {
            then.minute();
        }
        then.move(part, place);
        boolean there = true;
        while (there) {
            there = false;
            then.minute();
            for (int v = 0; v < then.came.size(); v++) {
                there |= then.where(v) >= 0;
            }
        }
        for (int v = 0; v < w.came.size(); v++) {
            if (w.where(v) >= 0 && w.times(v, part) < 2 && then.times(v, part) >= 2) {
                return false;
            }
        }
        return true;
    }

    public int unseen(int part, int place) {
        need(has(part) && in(place, -1, 5), BEYOND);
        need(w.parts.get(part)[3] != place && w.clock <= 9000, STATE);
        for (int wait = 0; wait <= 60; wait++) {
            if (slips(part, place, wait)) {
                return wait;
            }
        }
        need(false, NONE);
        return 0;
    }

    public int hidden(int place) {
        need(in(place, -1, 5), BEYOND);
        need(w.clock <= 9000, STATE);
        int set = 0;
        for (int p = 0; p < w.parts.size(); p++) {
            if (w.parts.get(p)[3] != place && slips(p, place, 0)) {
                set += 1 << p;
            }
        }
        return set;
    }

    public int empty() {
        World then = w.twin();
        int minutes = 0;
        while (true) {
            boolean there = false;
            for (int v = 0; v < then.came.size(); v++) {
                there |= then.where(v) >= 0;
            }
            if (!there) {
                return minutes;
            }
            then.minute();
            minutes++;
        }
    }

    private int chances() {
        return Arrays.stream(w.chance).sum();
    }

    private int favour(int looks) {
        int sum = 0;
        for (int f = 0; f < 6; f++) {
            sum += w.chance[f] * SHAPES[1].like(looks, w.looks[f]);
        }
        return sum;
    }

    public int worth(int looks, int what) {
        need(in(looks, 0, 255) && in(what, 0, 1), BEYOND);
        need(chances() > 0, NONE);
        int above = favour(looks);
        int below = chances();
        for (int d = below; d >= 2; d--) {
            if (above % d == 0 && below % d == 0) {
                above /= d;
                below /= d;
            }
        }
        return what == 0 ? above : below;
    }

    public int next() {
        need(chances() > 0, NONE);
        int best = 255;
        for (int looks = 255; looks >= 0; looks--) {
            best = favour(looks) >= favour(best) ? looks : best;
        }
        return best;
    }

    private int cost(int part, int face) {
        return (8 - SHAPES[0].like(w.parts.get(part)[1], w.looks[face])) * w.parts.get(part)[2];
    }

    public int mould(int face) {
        need(in(face, 0, 5), BEYOND);
        need(!w.parts.isEmpty(), NONE);
        int best = w.parts.size() - 1;
        for (int p = best; p >= 0; p--) {
            best = cost(p, face) <= cost(best, face) ? p : best;
        }
        return best;
    }

    public int cuts(int face) {
        return cost(mould(face), face);
    }

    /** Tries every way; each one that holds adds its heads to the sets. */
    private int ways(int[] numbers, int face, int[] chosen, int[] sets) {
        if (face == numbers.length) {
            for (int f = 0; f < face; f++) {
                sets[f] |= 1 << chosen[f];
            }
            return 1;
        }
        int sum = 0;
        for (int p = 0; p < w.parts.size(); p++) {
            boolean free = true;
            for (int f = 0; f < face; f++) {
                free &= chosen[f] != p;
            }
            if (free && w.head(p) && w.like(p, face) == numbers[face]) {
                chosen[face] = p;
                sum += ways(numbers, face + 1, chosen, sets);
            }
        }
        return sum;
    }

    private int[] told(int s) {
        return Arrays.copyOf(sheets[s], Math.min(6, sheets[s].length));
    }

    public int fits(int s) {
        need(in(s, 0, 3), BEYOND);
        need(sheets[s] != null, MISSING);
        return ways(told(s), 0, new int[6], new int[6]);
    }

    public int maybe(int s, int face) {
        need(in(s, 0, 3), BEYOND);
        need(sheets[s] != null, MISSING);
        need(in(face, 0, told(s).length - 1), BEYOND);
        int[] sets = new int[6];
        ways(told(s), 0, new int[6], sets);
        return sets[face];
    }

    public int stand(int lost, int v) {
        need(lost >= 0 && lost < 1 << w.parts.size() && in(v, 0, 99), BEYOND);
        int set = 0;
        for (int f = 0; f < 6; f++) {
            for (int p = 0; p < w.parts.size(); p++) {
                if (w.head(p) && (lost >> p & 1) == 0 && w.like(p, f) >= v) {
                    set |= 1 << f;
                }
            }
        }
        return set;
    }

    public int fire(int face, int v) {
        need(in(face, 0, 5) && in(v, 0, 99), BEYOND);
        int best = -1;
        for (int lost = 0; lost < 1 << w.parts.size(); lost++) {
            boolean none = (stand(lost, v) >> face & 1) == 0;
            if (none && (best < 0 || Integer.bitCount(lost) < Integer.bitCount(best))) {
                best = lost;
            }
        }
        return best;
    }

    public int papers(int n) {
        need(in(n, 1, 12), BEYOND);
        for (int i = 0; i < n; i++) {
            int room = w.draw() % 6;
            w.shown[room] = w.draw() % 6;
        }
        return w.best();
    }

    public int seed(int v) {
        int was = w.z;
        w.z = v;
        return was;
    }

    public int feed(int bytes, int n) {
        need(in(n, 1, 4), BEYOND);
        need(tape.length + n <= 120, FULL);
        int had = tape.length;
        tape = Arrays.copyOf(tape, had + n);
        for (int i = 0; i < n; i++) {
            tape[had + n - 1 - i] = (byte) (bytes >>> 8 * i);
        }
        return tape.length;
    }

    public int wipe() {
        int had = tape.length;
        tape = new byte[0];
        return had;
    }

    private List<String> tokens;
    private List<Integer> places;
    private int at;

    private String here() {
        return tokens.get(at);
    }

    private void must(boolean ok) {
        if (!ok) {
            throw new Fault(places.get(at));
        }
    }

    private int number(int a, int b) {
        must(here().matches("0*[0-9]{1,3}") && in(Integer.parseInt(here()), a, b));
        return Integer.parseInt(tokens.get(at++));
    }

    private boolean perhaps(String word) {
        boolean is = here().equals(word);
        at += is ? 1 : 0;
        return is;
    }

    private void item(World v) {
        int kind = Arrays.asList(NAMES).indexOf(here());
        if (kind >= 0) {
            must(v.parts.size() < 10);
            at++;
            int looks = perhaps("looks") ? number(0, 255) : 0;
            int wax = perhaps("wax") ? number(1, 60) : 10;
            int place = perhaps("in") ? number(0, 5) : -1;
            v.parts.add(new int[] {kind, looks, wax, place});
        } else if (perhaps("face")) {
            int face = number(0, 5);
            must(here().equals("looks"));
            at++;
            v.looks[face] = number(0, 255);
            v.chance[face] = perhaps("chance") ? number(0, 99) : v.chance[face];
        } else if (perhaps("show")) {
            int room = number(0, 5);
            v.shown[room] = number(0, 5);
        } else {
            must(here().equals("pace"));
            at++;
            v.pace = number(1, 20);
        }
    }

    public int text() {
        String all = new String(tape, java.nio.charset.StandardCharsets.ISO_8859_1);
        tape = new byte[0];
        tokens = new ArrayList<>();
        places = new ArrayList<>();
        Matcher m = Pattern.compile("[a-z]+|[0-9]+|[^ ]", Pattern.DOTALL).matcher(all);
        while (m.find()) {
            tokens.add(m.group());
            places.add(m.start());
        }
        tokens.add("");
        places.add(all.length());
        at = 0;
        World v = w.twin();
        int items = 0;
        try {
            do {
                item(v);
                items++;
            } while (perhaps(";"));
            must(here().isEmpty());
        } catch (Fault fault) {
            return -1 - fault.place;
        }
        w = v;
        return items;
    }

    public int hold(int spot, int part) {
        need(in(spot, 0, 9) && (has(part) || part == -1), BEYOND);
        w.held[spot] = part;
        return 1;
    }

    public int as(int spot, int kind) {
        need(in(spot, 0, 9) && in(kind, 0, 6), BEYOND);
        need(w.held[spot] >= 0, MISSING);
        Shape shape = SHAPES[w.parts.get(w.held[spot])[0]];
        need(SHAPES[kind].getClass().isInstance(shape), KIND);
        return w.held[spot];
    }

    public int sheet(int s, int b, int n) {
        need(in(s, 0, 3) && (b == 0 || b == 8 || b == 16 || b == 32), BEYOND);
        need(n >= 0, SIZE);
        need(n <= 40, BEYOND);
        sheets[s] = b == 0 ? null : new int[n];
        bits[s] = b;
        return b == 0 ? 0 : n;
    }

    public int write(int s, int i, int v) {
        need(in(s, 0, 3), BEYOND);
        need(sheets[s] != null, MISSING);
        need(in(i, 0, sheets[s].length - 1), BEYOND);
        sheets[s][i] = v << 32 - bits[s] >> 32 - bits[s];
        return 1;
    }

    public int copy(int s, int from, int t, int to, int n) {
        need(in(s, 0, 3) && in(t, 0, 3), BEYOND);
        need(sheets[s] != null && sheets[t] != null, MISSING);
        need(bits[s] == bits[t], KIND);
        need(from >= 0 && to >= 0 && n >= 0, BEYOND);
        need((long) from + n <= sheets[s].length && (long) to + n <= sheets[t].length, BEYOND);
        int[] were = sheets[s].clone();
        for (int i = 0; i < n; i++) {
            sheets[t][to + i] = were[from + i];
        }
        return n;
    }

    public int load(int s) {
        need(in(s, 0, 3), BEYOND);
        need(sheets[s] != null, MISSING);
        int came = 0;
        for (int v : sheets[s]) {
            if (v < 1 || v > 60 || came >= w.parts.size()) {
                break;
            }
            w.parts.get(came++)[2] = v;
        }
        return came;
    }

    public int judge(int s) {
        need(in(s, 0, 3), BEYOND);
        need(sheets[s] != null, MISSING);
        for (int i = 0; i < sheets[s].length; i++) {
            if (i >= 6 || w.likeness(i) != sheets[s][i]) {
                return 1 + i;
            }
        }
        return 0;
    }

    public int image() {
        kept = w.twin();
        return 1;
    }

    public int undo() {
        need(kept != null, NONE);
        w = kept.twin();
        return w.clock;
    }

    public int tear() {
        int had = kept == null ? 0 : 1;
        kept = null;
        return had;
    }

    public int count(int what) {
        need(in(what, 0, 7), BEYOND);
        int[] all = {
            w.clock, w.parts.size(), w.came.size(), (int) Arrays.stream(w.shown).filter(f -> f >= 0).count(),
            w.parts.stream().mapToInt(p -> p[2]).sum(), tape.length, w.z,
            (int) Arrays.stream(w.held).filter(p -> p >= 0).count()
        };
        return all[what];
    }

    public int status(int which) {
        need(in(which, -1, 6), BEYOND);
        return which < 0 ? Arrays.stream(tally).sum() : tally[which];
    }
}
