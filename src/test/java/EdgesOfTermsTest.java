/** Each sentence of "Terms" that names a boundary, in a run of its own. Names tell the promises that lean on it. */
public final class EdgesOfTermsTest {
    private static final Rows ROWS = new Rows();
    private static final String[] ALL_KINDS = {
        "part(0)", "part(1)", "part(2)", "part(3)", "part(4)", "part(5)", "part(6)"
    };

    private static void findings() {
        ROWS.run("Promise 50, FINDINGS: BEYOND is -1000001, then FULL, KIND, NONE, STATE, MISSING, SIZE, one less each",
            "part(7)=BEYOND", "status(0)=1", "visitor()", "visitor()", "visitor()", "visitor()", "visitor()=FULL", "status(1)=1",
            "part(0)", "recast(0)=KIND", "status(2)=1", "undo()=NONE", "status(3)=1", "carries(0, -1)=STATE", "status(4)=1",
            "load(0)=MISSING", "status(5)=1", "sheet(0, 8, -1)=SIZE", "status(6)=1", "status(-1)=7");
        ROWS.run("Promises 35, 49, FINDINGS: what seed() and count(6) tell may be any int and is no finding",
            "seed(-1000001)=1", "count(6)=-1000001", "seed(-1000007)=-1000001", "count(6)=-1000007", "seed(-1000004)=-1000007",
            "seed(-2147483648)=-1000004", "count(6)=-2147483648", "seed(2147483647)=-2147483648", "count(6)=2147483647",
            "seed(0)=2147483647", "count(6)=0", "status(-1)=0");
        ROWS.run("Promise 38: -1 less the FAULT is no finding", "text()=-1", "status(-1)=0", "tape nose", "text()=-1", "status(-1)=0");
        ROWS.run("Promises 6, 8, 12, 17: -1 is no finding", "show(0, -1)=-1", "room(0, 0)=-1", "given(0)=-1", "pace(1)", "visitor()",
            "waits(6)", "seen(0, 0)=-1", "part(0)", "of(0, 3)=-1", "status(-1)=0");
    }

    private static void cutQuotients() {
        ROWS.run("Promise 9: quotients are cut: HANDS, half of 7, 5, 3, 1", "part(5)", "like(0, 0)=4", "change(0, 1, 1)", "like(0, 0)=3",
            "change(0, 1, 3)", "like(0, 0)=3", "change(0, 1, 7)", "like(0, 0)=2", "change(0, 1, 31)", "like(0, 0)=1",
            "change(0, 1, 127)", "like(0, 0)=0", "change(0, 1, 255)", "like(0, 0)=0");
        ROWS.run("Promise 10: quotients are cut: BODY, WAX by 10", "part(4)", "change(0, 3, 2)", "change(0, 2, 1)", "carries(0, 3)=2",
            "change(0, 2, 9)", "carries(0, 3)=2", "change(0, 2, 10)", "carries(0, 3)=3", "change(0, 2, 19)", "carries(0, 3)=3",
            "change(0, 2, 20)", "carries(0, 3)=4", "change(0, 2, 59)", "carries(0, 3)=7", "change(0, 2, 60)", "carries(0, 3)=8");
        ROWS.run("Promise 12: quotients are cut: a VISITOR's ROOM, PACE 3", "pace(3)", "visitor()", "waits(2)", "seen(0, 0)=0", "waits(1)",
            "seen(0, 0)=1", "waits(2)", "seen(0, 0)=1", "waits(1)", "seen(0, 0)=2", "waits(11)", "seen(0, 0)=5", "waits(1)",
            "seen(0, 0)=-1");
    }

    private static void leastOfSeveral() {
        ROWS.run("Promise 18: of several PARTS the least number", "part(0)", "part(1)", "part(1)", "likest(0)=1");
        ROWS.run("Promise 19: of several FACES the least number", "part(1)", "face(0, 0, 1)", "face(1, 0, 2)", "whom(0)=2");
        ROWS.run("Promise 21: of several LOOKS the least number", "part(1)", "recast(0)=0", "change(0, 1, 77)", "recast(0)=0");
        ROWS.run("Promise 22: of several KINDS the least number", "part(6)", "kindFor(0)=0", "change(0, 0, 3)", "kindFor(0)=0");
        ROWS.run("Promise 27: of several LOOKS the least number", "face(0, 0, 255)", "face(1, 0, 255)", "face(2, 0, 255)", "next()=0");
        ROWS.run("Promise 28: of several PARTS the least number", "part(0)", "part(0)", "part(0)", "change(0, 1, 3)", "mould(0)=1");
    }

    private static void firstOnes() {
        ROWS.run("Promise 5: LOOKS of FACES are 0 at first, CHANCES 1", "face(0, 0, 3)=0", "face(5, 0, 3)=0", "face(0, 1, 3)=1", "face(5, 1, 3)=1",
            "face(2, 1, 1)=1", "face(3, 0, 0)=0");
        ROWS.run("Promise 6: nobody is SHOWN at first", "show(0, 1)=-1", "show(1, 1)=-1", "show(2, 1)=-1", "show(3, 1)=-1", "show(4, 1)=-1",
            "show(5, 1)=-1");
        ROWS.run("Promise 2: LOOKS are 0, WAX is 10 at first, in the STORE", "part(3)=0", "of(0, 0)=3", "of(0, 1)=0", "of(0, 2)=10",
            "of(0, 3)=-1", "now(4)=1", "part(4)=1", "of(1, 2)=10", "count(4)=20");
        ROWS.run("Promises 7, 15: PACE is 5, CLOCK 0 at first", "now(0)=0", "now(1)=5", "pace(5)=5");
        ROWS.run("Promise 35: z is 1 at first", "seed(9)=1");
        ROWS.run("Promise 39: SPOTS hold nothing at first", "part(0)", "as(0, 0)=MISSING", "as(4, 0)=MISSING", "as(9, 0)=MISSING", "count(7)=0");
        ROWS.run("Promise 41: SHEETS are MISSING at first", "write(0, 0, 0)=MISSING", "write(1, 0, 0)=MISSING", "write(2, 0, 0)=MISSING",
            "write(3, 0, 0)=MISSING");
    }

    private static void likes() {
        ROWS.run("Promise 9: ALIKE counts what both have and what neither has", "part(0)", "face(0, 0, 255)", "like(0, 0)=0", "change(0, 1, 128)",
            "like(0, 0)=1", "change(0, 1, 1)", "like(0, 0)=1", "change(0, 1, 255)", "like(0, 0)=8", "face(0, 0, 0)", "like(0, 0)=0",
            "change(0, 1, 0)", "like(0, 0)=8", "change(0, 1, 170)", "face(0, 0, 85)", "like(0, 0)=0", "face(0, 0, 102)", "like(0, 0)=4");
        ROWS.run("Promise 9: LIKE, eight ALIKE, without LOOK 7", Rows.join(ALL_KINDS, "like(0, 0)=8", "like(1, 0)=16", "like(2, 0)=18",
            "like(3, 0)=13", "like(4, 0)=11", "like(5, 0)=4", "like(6, 0)=4"));
        ROWS.run("Promise 9: LIKE, none ALIKE, with LOOK 7", Rows.join(ALL_KINDS, "face(0, 0, 255)", "like(0, 0)=0", "like(1, 0)=0",
            "like(2, 0)=2", "like(3, 0)=7", "like(4, 0)=3", "like(5, 0)=0", "like(6, 0)=3"));
        ROWS.run("Promise 9: CROWNED, less 5, 0 at least: none, 1, 2, 3 ALIKE", "part(3)", "change(0, 1, 255)", "like(0, 0)=0",
            "change(0, 1, 254)", "like(0, 0)=0", "change(0, 1, 252)", "like(0, 0)=1", "change(0, 1, 248)", "like(0, 0)=3");
        ROWS.run("Promise 9: CROWNED, LOOK 7 of the FACE counts, not that of the PART", "part(3)", "change(0, 1, 128)", "like(0, 0)=11",
            "face(0, 0, 128)", "like(0, 0)=23", "change(0, 1, 0)", "like(0, 0)=21", "face(0, 0, 64)", "like(0, 0)=11", "face(0, 0, 127)",
            "like(0, 0)=0", "face(0, 0, 129)", "like(0, 0)=19");
        ROWS.run("Promise 9: GLOVED, 3 at least: none, 5, 6, 7, 8 ALIKE", "part(6)", "change(0, 1, 255)", "like(0, 0)=3", "change(0, 1, 7)",
            "like(0, 0)=3", "change(0, 1, 3)", "like(0, 0)=3", "change(0, 1, 1)", "like(0, 0)=3", "change(0, 1, 0)", "like(0, 0)=4");
        ROWS.run("Promises 8, 15: LIKENESS, 0 without a FACE, 0 without a PART, of all PARTS in it alone", "room(2, 2)=0", "show(2, 0)",
            "room(2, 2)=0", "part(0)", "room(2, 2)=0", "change(0, 3, 2)", "room(2, 2)=8", "part(1)", "change(1, 3, 2)", "room(2, 2)=24",
            "change(0, 3, 3)", "room(2, 2)=16", "room(3, 2)=0", "now(2)=16", "show(2, -1)", "room(2, 2)=0", "now(2)=0");
    }

    private static void carrying() {
        ROWS.run("Promise 10: CARRIES from the STORE: 6 STEPS, to ROOM 0 as to ROOM 5", Rows.join(ALL_KINDS, "carries(0, 0)=7", "carries(0, 5)=7",
            "carries(1, 0)=7", "carries(1, 5)=7", "carries(2, 0)=9", "carries(2, 5)=9", "carries(3, 0)=18", "carries(3, 5)=18",
            "carries(4, 0)=8", "carries(4, 5)=8", "carries(5, 0)=1", "carries(5, 5)=1", "carries(6, 0)=1", "carries(6, 5)=1"));
        ROWS.run("Promise 10: CARRIES to the STORE: 6 STEPS, from ROOM 0 as from ROOM 5", "part(0)", "part(3)", "change(0, 3, 0)", "carries(0, -1)=7",
            "change(0, 3, 5)", "carries(0, -1)=7", "change(1, 3, 5)", "carries(1, -1)=18", "change(1, 3, 0)", "carries(1, -1)=18");
        ROWS.run("Promise 10: CARRIES by one STEP and by five, forth and back", "part(0)", "part(2)", "part(3)", "part(4)", "part(5)", "change(0, 3, 0)",
            "change(1, 3, 0)", "change(2, 3, 0)", "change(3, 3, 0)", "change(4, 3, 0)", "carries(0, 1)=2", "carries(1, 1)=4",
            "carries(2, 1)=8", "carries(3, 1)=3", "carries(4, 1)=1", "carries(0, 5)=6", "carries(1, 5)=8", "carries(2, 5)=16",
            "carries(3, 5)=7", "carries(4, 5)=1", "change(0, 3, 5)", "carries(0, 4)=2", "carries(0, 0)=6");
    }

    private static void visitors() {
        ROWS.run("Promise 12: a VISITOR's ROOM, its first minute and its last, gone once it is above 5", "visitor()", "seen(0, 0)=0", "waits(4)",
            "seen(0, 0)=0", "waits(1)", "seen(0, 0)=1", "waits(19)", "seen(0, 0)=4", "waits(1)", "seen(0, 0)=5", "waits(4)",
            "seen(0, 0)=5", "room(5, 3)=1", "now(3)=1", "waits(1)", "seen(0, 0)=-1", "room(5, 3)=0", "now(3)=0", "waits(60)",
            "seen(0, 0)=-1");
        ROWS.run("Promise 12: he counts from the minute in which he came", "waits(7)", "visitor()", "seen(0, 0)=0", "waits(4)", "seen(0, 0)=0", "waits(1)",
            "seen(0, 0)=1", "visitor()", "seen(1, 0)=0", "waits(24)", "seen(0, 0)=5", "waits(1)", "seen(0, 0)=-1", "seen(1, 0)=5");
        ROWS.run("Promise 12: PACE 1, the least", "pace(1)", "visitor()", "seen(0, 0)=0", "waits(1)", "seen(0, 0)=1", "waits(4)", "seen(0, 0)=5", "waits(1)",
            "seen(0, 0)=-1");
        ROWS.run("Promise 12: PACE 20, the most", "pace(20)", "visitor()", "waits(19)", "seen(0, 0)=0", "waits(1)", "seen(0, 0)=1", "waits(60)", "seen(0, 0)=4",
            "waits(39)", "seen(0, 0)=5", "waits(1)", "seen(0, 0)=-1");
        ROWS.run("Promise 12: each minute, as it begins: nothing is SEEN ahead of the first, then it is", "part(0)", "change(0, 3, 0)", "visitor()",
            "seen(0, 1)=0", "waits(1)", "seen(0, 1)=1");
        ROWS.run("Promise 12: he SEES in the last minute of a ROOM", "part(0)", "visitor()", "waits(4)", "change(0, 3, 0)", "waits(1)", "seen(0, 1)=1");
        ROWS.run("Promise 12: he SEES no more in the ROOM behind him", "part(0)", "visitor()", "waits(5)", "change(0, 3, 0)", "waits(60)", "seen(0, 1)=0");
        ROWS.run("Promise 12: he SEES in the first minute of the next ROOM, not sooner", "part(0)", "change(0, 3, 1)", "visitor()", "waits(5)", "seen(0, 1)=0",
            "waits(1)", "seen(0, 1)=1");
        ROWS.run("Promise 12: he SEES in the last minute of ROOM 5", "part(0)", "visitor()", "waits(29)", "change(0, 3, 5)", "waits(1)", "seen(0, 1)=1");
        ROWS.run("Promise 12: gone, he SEES nothing", "part(0)", "visitor()", "waits(30)", "change(0, 3, 5)", "waits(1)", "seen(0, 1)=0");
        ROWS.run("Promise 12: nothing is SEEN in the STORE, by one who is gone neither", "part(0)", "visitor()", "waits(60)", "seen(0, 1)=0");
        ROWS.run("Promise 12: all PARTS in the ROOM are SEEN, at once", "part(0)", "part(0)", "part(0)", "change(0, 3, 0)", "change(2, 3, 0)", "visitor()",
            "waits(1)", "seen(0, 1)=5");
        ROWS.run("Promise 12: one who comes later has SEEN nothing", "part(0)", "change(0, 3, 0)", "visitor()", "waits(1)", "visitor()", "seen(1, 1)=0",
            "seen(0, 1)=1", "waits(1)", "seen(1, 1)=1");
        ROWS.run("Promise 12: TWICE is two ROOMS, not one for long, and three too", "part(0)", "change(0, 3, 0)", "pace(2)", "visitor()", "waits(2)",
            "seen(0, 1)=1", "seen(0, 2)=0", "change(0, 3, 1)", "waits(1)=1", "seen(0, 2)=1", "waits(1)=1", "change(0, 3, 2)", "waits(1)=1",
            "seen(0, 2)=1");
        ROWS.run("Promise 12: TWICE is of one VISITOR, not of two in a ROOM each", "part(0)", "change(0, 3, 0)", "pace(1)", "visitor()", "waits(1)",
            "visitor()", "change(0, 3, 1)", "waits(1)=1", "seen(0, 2)=1", "seen(1, 1)=0", "seen(1, 2)=0");
        ROWS.run("Promises 12, 14: two who saw it in a ROOM each saw it once", "part(0)", "change(0, 3, 1)", "pace(1)", "visitor()", "waits(2)=0",
            "change(0, 3, 0)", "visitor()", "waits(1)=0", "seen(0, 1)=1", "seen(1, 1)=1", "seen(0, 2)=0", "seen(1, 2)=0", "now(5)=0");
    }

    private static void minutesAndMoves() {
        ROWS.run("Promise 13: a MOVE: it is nowhere for just as many MINUTES as it CARRIES, then it is there", "part(0)", "change(0, 3, 1)", "visitor()",
            "move(0, 0)=2", "of(0, 3)=0", "seen(0, 1)=0", "waits(1)", "seen(0, 1)=1");
        ROWS.run("Promise 13: it isn't SEEN where it was, not in the first minute of the MOVE", "part(0)", "change(0, 3, 0)", "visitor()", "move(0, 1)=2",
            "seen(0, 1)=0", "waits(3)", "seen(0, 1)=0", "waits(1)", "seen(0, 1)=1", "seen(0, 2)=0");
        ROWS.run("Promise 13: a MOVE of one minute, the least", "part(5)", "change(0, 3, 0)", "visitor()", "move(0, 5)=1", "seen(0, 1)=0", "move(0, 0)=2",
            "seen(0, 1)=0", "waits(1)", "seen(0, 1)=1");
        ROWS.run("Promise 13: others SEE and are SEEN in its MINUTES", "part(0)", "part(0)", "change(1, 3, 1)", "visitor()", "move(0, 3)=7", "seen(0, 1)=2",
            "visitor()=1", "seen(1, 0)=0", "move(0, -1)=14", "seen(1, 1)=2");
        ROWS.run("Promise 16: a GIVING gives none to two: one HEAD for two ROOMS", "part(1)", "show(0, 0)", "show(5, 0)", "most()=16", "part(0)", "part(4)",
            "part(5)", "part(6)", "most()=16", "part(1)", "most()=32", "part(1)", "most()=32");
        ROWS.run("Promise 34: DRAWS wrap around as an int does", "seed(2147483647)", "papers(1)", "count(6)=" + after(2147483647, 2), "seed(-2147483648)",
            "papers(1)", "count(6)=" + after(-2147483648, 2), "seed(-1)", "papers(12)", "count(6)=" + after(-1, 24));
        for (int z : new int[] {0, 1, -1, 2147483647, -2147483648, -1000001, 123456789, -987654321}) {
            int room = (after(z, 1) >>> 8) % 6;
            ROWS.run("Promise 34: a draw gives z >>> 8, never below 0, z " + z, "seed(" + z + ")", "papers(1)=0", "count(3)=1",
                "room(" + room + ", 0)=" + (after(z, 2) >>> 8) % 6);
        }
    }

    private static int after(int z, int draws) {
        int now = z;
        for (int i = 0; i < draws; i++) {
            now = now * 1103515245 + 12345;
        }
        return now;
    }

    private static void lastMinutes() {
        String[] late = Rows.join(new String[] {"part(5)", "part(0)", "change(1, 3, 0)"}, Rows.times(166, "waits(60)=0"));
        ROWS.run("Promise 14: CLOCK is 9999 at most: 39 MINUTES from 9960, not 40", Rows.join(late, "now(0)=9960", "waits(40)=STATE",
            "waits(60)=STATE", "now(0)=9960", "waits(39)=0", "now(0)=9999", "waits(1)=STATE", "count(0)=9999"));
        ROWS.run("Promise 13: CLOCK is 9999 at most: a MOVE of one minute from 9998, not from 9999", Rows.join(late, "waits(38)=0", "move(0, 2)=9999",
            "move(0, 3)=STATE", "of(0, 3)=2", "now(0)=9999", "change(0, 3, 4)=2"));
        ROWS.run("Promise 13: CLOCK is 9999 at most: a MOVE of two minutes from 9997, not from 9998", Rows.join(late, "waits(37)=0", "image()", "move(1, 1)=9999",
            "undo()=9997", "waits(1)=0", "move(1, 1)=STATE", "of(1, 3)=0", "now(0)=9998", "carries(1, 1)=2"));
        ROWS.run("Promise 11: a VISITOR comes in at minute 9999 too", Rows.join(late, "waits(39)=0", "visitor()=0", "seen(0, 0)=0", "empty()=30"));
    }

    public static void main(String[] args) {
        findings();
        cutQuotients();
        leastOfSeveral();
        firstOnes();
        likes();
        carrying();
        visitors();
        minutesAndMoves();
        lastMinutes();
        ROWS.end();
    }
}
