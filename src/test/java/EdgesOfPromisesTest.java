/** Each sentence of a promise that names a boundary, or a finding, in a run of its own that names the promise. */
public final class EdgesOfPromisesTest {
    private static final Rows ROWS = new Rows();
    private static final int PROMISES = 50;
    private static final String[] NOTHING = {};
    private static final String[] TEN = Rows.times(10, "part(1)");
    private static final String[] THREE = {"part(1)", "part(1)", "part(2)", "change(0, 3, 2)", "change(1, 3, 2)", "change(2, 3, 2)"};
    private static final String[] TWO_CAME = {"part(0)", "change(0, 3, 0)", "visitor()", "waits(2)", "visitor()"};
    private static final String[] ALL_KINDS = {
        "part(0)", "part(1)", "part(2)", "part(3)", "part(4)", "part(5)", "part(6)"
    };
    private static final String[] SHEETS = {
        "part(1)", "part(1)", "sheet(0, 8, 3)", "sheet(1, 8, 3)", "sheet(2, 8, 3)", "sheet(3, 8, 3)", "write(0, 0, 5)", "write(1, 0, 6)",
        "write(2, 0, 7)", "write(3, 0, 8)"
    };

    private static void parts() {
        ROWS.run("Promise 1: no PARTS, no VISITORS, THE TAPE is empty, no image is kept", "count(1)=0", "count(2)=0", "count(5)=0", "undo()=NONE",
            "tear()=0", "wipe()=0", "of(0, 0)=BEYOND", "seen(0, 0)=BEYOND", "now(3)=0", "now(4)=0", "now(5)=0", "count(4)=0");
        ROWS.run("Promise 1: one object knows nothing of another", "part(0)=0", "part(0)=1", "seed(9)=1", "image()=1");
        ROWS.run("Promise 1: one object knows nothing of another, the other", "count(1)=0", "seed(9)=1", "undo()=NONE", "part(0)=0");
        ROWS.range("Promise 2: BEYOND: a KIND", NOTHING, "part(?)", 0, 6);
        ROWS.run("Promise 2: its number, from 0 on, and FULL: an 11th PART", Rows.join(NOTHING, "part(0)=0", "part(6)=1", "part(1)=2", "part(1)=3",
            "part(1)=4", "part(1)=5", "part(1)=6", "part(1)=7", "part(1)=8", "part(1)=9", "part(1)=FULL", "count(1)=10"));
        ROWS.run("Promise 2: BEYOND is asked ahead of FULL", Rows.join(TEN, "part(7)=BEYOND", "part(-1)=BEYOND", "part(0)=FULL"));
        ROWS.run("Promise 2: FULL no more behind undo()", Rows.join(Rows.times(9, "part(1)"), "image()", "part(4)=9", "part(4)=FULL", "undo()=0",
            "part(5)=9", "of(9, 0)=5"));
        ROWS.run("Promise 2: a new PART has none of what one had that undo() took", "part(0)", "image()", "part(3)=1", "change(1, 1, 9)",
            "change(1, 2, 50)", "change(1, 3, 0)", "visitor()", "waits(1)", "seen(0, 1)=2", "undo()=0", "part(4)=1", "of(1, 0)=4", "of(1, 1)=0",
            "of(1, 2)=10", "of(1, 3)=-1", "visitor()=0", "seen(0, 1)=0");
        ROWS.range("Promise 3: BEYOND: a PART", THREE, "of(?, 0)", 0, 2);
        ROWS.range("Promise 3: BEYOND: a PART of ten", TEN, "of(?, 3)", 0, 9);
        ROWS.range("Promise 3: BEYOND: what", THREE, "of(0, ?)", 0, 3);
        ROWS.run("Promise 3: BEYOND: there is none yet", "of(0, 0)=BEYOND", "of(0, 3)=BEYOND", "of(-1, 0)=BEYOND");
        ROWS.range("Promise 4: BEYOND: a PART", THREE, "change(?, 1, 5)", 0, 2);
        ROWS.range("Promise 4: BEYOND: what", THREE, "change(0, ?, 1)", 0, 3);
        ROWS.range("Promise 4: BEYOND: a KIND", THREE, "change(0, 0, ?)", 0, 6);
        ROWS.range("Promise 4: BEYOND: LOOKS", THREE, "change(0, 1, ?)", 0, 255);
        ROWS.range("Promise 4: BEYOND: WAX", THREE, "change(0, 2, ?)", 1, 60);
        ROWS.range("Promise 4: BEYOND: a place", THREE, "change(0, 3, ?)", -1, 5);
        ROWS.run("Promise 4: what it was, at its least and most", "part(0)", "change(0, 0, 6)=0", "change(0, 0, 0)=6", "change(0, 1, 255)=0",
            "change(0, 1, 0)=255", "change(0, 2, 60)=10", "change(0, 2, 1)=60", "of(0, 2)=1", "change(0, 3, 5)=-1", "change(0, 3, -1)=5",
            "of(0, 3)=-1");
        ROWS.run("Promise 4: where it is, at once: no MINUTE goes, nobody SEES, to where it is too", "part(0)", "visitor()", "change(0, 3, 0)=-1",
            "now(0)=0", "seen(0, 1)=0", "change(0, 3, 0)=0", "change(0, 3, 5)=0", "now(0)=0", "seen(0, 1)=0");
        ROWS.run("Promise 4: the others stay as they are", "part(1)", "part(2)", "part(3)", "change(1, 1, 9)", "change(1, 2, 9)", "change(1, 0, 4)",
            "change(1, 3, 4)", "of(0, 0)=1", "of(0, 1)=0", "of(0, 2)=10", "of(0, 3)=-1", "of(2, 0)=3", "of(2, 1)=0", "of(2, 2)=10",
            "of(2, 3)=-1");
        ROWS.range("Promise 5: BEYOND: a FACE", NOTHING, "face(?, 0, 1)", 0, 5);
        ROWS.range("Promise 5: BEYOND: what", NOTHING, "face(0, ?, 1)", 0, 1);
        ROWS.range("Promise 5: BEYOND: LOOKS", NOTHING, "face(0, 0, ?)", 0, 255);
        ROWS.range("Promise 5: BEYOND: a CHANCE", NOTHING, "face(5, 1, ?)", 0, 99);
        ROWS.run("Promise 5: what it was, at its least and most", "face(0, 0, 255)=0", "face(0, 0, 0)=255", "face(0, 0, 0)=0", "face(0, 1, 99)=1",
            "face(0, 1, 0)=99", "face(0, 1, 0)=0", "face(1, 1, 0)=1", "face(5, 0, 255)=0", "face(5, 0, 255)=255");
    }

    private static void rooms() {
        ROWS.range("Promise 6: BEYOND: a ROOM", NOTHING, "show(?, 0)", 0, 5);
        ROWS.range("Promise 6: BEYOND: a FACE, or nobody", NOTHING, "show(0, ?)", -1, 5);
        ROWS.run("Promise 6: who was, nobody too", "show(0, 0)=-1", "show(0, 5)=0", "show(0, -1)=5", "show(0, -1)=-1", "show(5, 5)=-1", "show(5, 5)=5");
        ROWS.run("Promise 6: one FACE in all ROOMS", "show(0, 3)", "show(1, 3)", "show(2, 3)", "show(3, 3)", "show(4, 3)", "show(5, 3)", "count(3)=6");
        ROWS.range("Promise 7: BEYOND", NOTHING, "pace(?)", 1, 20);
        ROWS.run("Promise 7: what it was, at its least and most", "pace(1)=5", "pace(20)=1", "pace(20)=20", "now(1)=20", "pace(1)=20");
        for (int what = 0; what < 4; what++) {
            ROWS.range("Promise 8: BEYOND: a ROOM", THREE, "room(?, " + what + ")", 0, 5);
        }
        ROWS.range("Promise 8: BEYOND: what", THREE, "room(5, ?)", 0, 3);
        ROWS.run("Promise 8: nothing is there yet", "room(0, 0)=-1", "room(0, 1)=0", "room(0, 2)=0", "room(0, 3)=0", "room(5, 0)=-1", "room(5, 1)=0",
            "room(5, 2)=0", "room(5, 3)=0");
        ROWS.run("Promise 8: all PARTS and all VISITORS in one ROOM", Rows.join(TEN, "change(0, 3, 0)", "change(1, 3, 0)", "change(2, 3, 0)",
            "change(3, 3, 0)", "change(4, 3, 0)", "change(5, 3, 0)", "change(6, 3, 0)", "change(7, 3, 0)", "change(8, 3, 0)",
            "room(0, 1)=511", "change(9, 3, 0)", "room(0, 1)=1023", "show(0, 2)", "room(0, 2)=160", "visitor()", "visitor()", "visitor()",
            "room(0, 3)=7", "visitor()", "room(0, 3)=15"));
        ROWS.range("Promise 9: BEYOND: a PART", THREE, "like(?, 0)", 0, 2);
        ROWS.range("Promise 9: BEYOND: a FACE", THREE, "like(2, ?)", 0, 5);
        ROWS.run("Promise 9: BEYOND: there is no PART yet", "like(0, 0)=BEYOND");
        ROWS.range("Promise 10: BEYOND: a PART", THREE, "carries(?, 3)", 0, 2);
        ROWS.range("Promise 10: BEYOND: a place", THREE, "carries(0, ?)", -1, 5);
        ROWS.run("Promise 10: STATE: it is there, in a ROOM, in the STORE", "part(0)", "carries(0, -1)=STATE", "change(0, 3, 0)", "carries(0, 0)=STATE",
            "change(0, 3, 5)", "carries(0, 5)=STATE", "carries(0, 4)=2", "carries(0, -1)=7");
        ROWS.run("Promise 10: BEYOND is asked ahead of STATE", "part(0)", "carries(1, -1)=BEYOND", "carries(-1, -1)=BEYOND", "carries(0, -2)=BEYOND",
            "carries(0, -1)=STATE");
        ROWS.run("Promise 10: no MINUTE goes", "part(0)", "carries(0, 3)=7", "now(0)=0", "of(0, 3)=-1");
    }

    private static void minutes() {
        ROWS.run("Promise 11: the number, from 0 on, and FULL: a fifth VISITOR", "visitor()=0", "visitor()=1", "visitor()=2", "visitor()=3",
            "visitor()=FULL", "visitor()=FULL", "count(2)=4", "now(3)=15");
        ROWS.run("Promise 11: FULL though they are gone", "pace(1)", "visitor()=0", "visitor()=1", "visitor()=2", "visitor()=3", "waits(6)", "now(3)=0",
            "visitor()=FULL", "count(2)=4");
        ROWS.run("Promise 11: FULL no more behind undo()", "visitor()", "visitor()", "visitor()", "image()", "visitor()=3", "visitor()=FULL", "undo()=0",
            "visitor()=3");
        ROWS.run("Promise 11: a new VISITOR has SEEN nothing of what one saw that undo() took", "part(0)", "change(0, 3, 0)", "image()", "visitor()=0",
            "waits(1)", "seen(0, 1)=1", "undo()=0", "visitor()=0", "seen(0, 1)=0");
        for (int what = 0; what < 3; what++) {
            ROWS.range("Promise 12: BEYOND: a VISITOR", TWO_CAME, "seen(?, " + what + ")", 0, 1);
        }
        ROWS.range("Promise 12: BEYOND: a VISITOR of four", Rows.times(4, "visitor()"), "seen(?, 0)", 0, 3);
        ROWS.range("Promise 12: BEYOND: what", TWO_CAME, "seen(1, ?)", 0, 2);
        ROWS.run("Promise 12: BEYOND: nobody has come yet", "seen(0, 0)=BEYOND", "seen(0, 1)=BEYOND", "seen(-1, 0)=BEYOND");
        ROWS.run("Promise 12: the last PART of ten and the last VISITOR of four", Rows.join(TEN, "visitor()", "visitor()", "visitor()", "visitor()",
            "change(9, 3, 0)", "waits(1)", "seen(3, 1)=512", "seen(3, 2)=0", "waits(4)", "change(9, 3, 1)", "waits(1)=1", "seen(3, 2)=512",
            "seen(0, 2)=512", "seen(3, 1)=512"));
        ROWS.range("Promise 13: BEYOND: a PART", THREE, "move(?, 3)", 0, 2);
        ROWS.range("Promise 13: BEYOND: a place", THREE, "move(0, ?)", -1, 5);
        ROWS.run("Promise 13: STATE: it is there, in the STORE, in a ROOM", "part(0)", "move(0, -1)=STATE", "move(0, 5)=7", "move(0, 5)=STATE", "now(0)=7");
        ROWS.run("Promise 13: BEYOND is asked ahead of STATE", "part(0)", "move(1, -1)=BEYOND", "move(-1, -1)=BEYOND", "move(0, 6)=BEYOND", "now(0)=0");
        ROWS.run("Promise 13: BEYOND: there is no PART yet", "move(0, 0)=BEYOND");
        String[] last = Rows.join(new String[] {"part(3)", "part(5)", "change(0, 3, 0)"}, Rows.join(Rows.times(166, "waits(60)"), "waits(21)"));
        ROWS.run("Promise 13: STATE: CLOCK would be above 9999; just 9999 is none", Rows.join(last, "now(0)=9981", "image()", "move(0, -1)=9999",
            "undo()=9981", "waits(1)", "move(0, -1)=STATE", "of(0, 3)=0", "now(0)=9982", "move(0, 6)=BEYOND", "move(0, 5)=9998"));
        ROWS.range("Promise 14: BEYOND", NOTHING, "waits(?)", 1, 60);
        ROWS.run("Promise 14: n MINUTES go, 1 and 60", "waits(1)=0", "now(0)=1", "waits(60)=0", "now(0)=61");
        ROWS.run("Promise 14: BEYOND is asked ahead of STATE", Rows.join(last, "waits(18)", "waits(0)=BEYOND", "waits(61)=BEYOND", "waits(60)=STATE",
            "waits(1)=STATE", "now(0)=9999"));
        ROWS.run("Promise 14: how many PARTS, each once, whoever SAW them TWICE", "part(0)", "part(0)", "change(0, 3, 0)", "change(1, 3, 0)", "pace(1)",
            "visitor()", "visitor()", "waits(1)=0", "change(0, 3, 1)", "waits(1)=1", "change(1, 3, 2)", "waits(1)=2", "waits(60)=2",
            "now(5)=3");
        ROWS.run("Promise 14: all ten PARTS are SEEN TWICE", "tape part in 0;part in 0;part in 0;part in 0;part in 0;part in 0;part in 0;part in 0", "text()=8",
            "part(0)", "part(0)", "change(8, 3, 0)", "change(9, 3, 0)", "pace(1)", "visitor()", "waits(1)=0", "change(0, 3, 1)", "change(1, 3, 1)",
            "change(2, 3, 1)", "change(3, 3, 1)", "change(4, 3, 1)", "change(5, 3, 1)", "change(6, 3, 1)", "change(7, 3, 1)", "change(8, 3, 1)",
            "change(9, 3, 1)", "waits(1)=10", "now(5)=1023");
        ROWS.range("Promise 15: BEYOND", TWO_CAME, "now(?)", 0, 5);
        ROWS.run("Promise 15: nothing is there yet", "now(0)=0", "now(1)=5", "now(2)=0", "now(3)=0", "now(4)=0", "now(5)=0");
        ROWS.run("Promise 15: all are there", Rows.join(TEN, "visitor()", "visitor()", "visitor()", "visitor()", "now(3)=15", "now(4)=1023",
            "change(0, 3, 0)", "now(4)=1022", "change(9, 3, 5)", "now(4)=510", "waits(30)", "now(3)=0"));
        ROWS.run("Promise 15: PARTS SEEN TWICE by anybody, by one who is gone too", "part(0)", "change(0, 3, 0)", "pace(1)", "visitor()", "waits(1)",
            "change(0, 3, 1)", "waits(1)=1", "waits(60)=1", "now(3)=0", "now(5)=1");
        ROWS.run("Promise 15: all LIKENESSES together: ROOM 0 and ROOM 5, not the STORE", "part(1)", "part(1)", "part(1)", "change(0, 3, 0)", "change(1, 3, 5)", "show(0, 0)",
            "now(2)=16", "show(5, 0)", "now(2)=32", "show(0, -1)", "now(2)=16");
    }

    private static void givings() {
        ROWS.run("Promise 16: nothing is there yet, no HEAD, no ROOM with a FACE", "most()=0", "show(0, 0)", "most()=0", "part(0)", "part(4)", "part(5)",
            "part(6)", "most()=0", "show(0, -1)", "part(1)", "most()=0");
        ROWS.run("Promise 16: all six ROOMS and ten HEADS", Rows.join(TEN, "show(0, 0)", "show(1, 1)", "show(2, 2)", "show(3, 3)", "show(4, 4)", "most()=80",
            "show(5, 5)", "most()=96", "change(0, 0, 2)", "most()=98", "change(9, 0, 2)", "most()=100", "given(0)=0", "given(5)=9"));
        ROWS.run("Promise 16: six ROOMS, one HEAD, wherever it is", "part(1)", "show(0, 0)", "show(1, 0)", "show(2, 0)", "show(3, 0)", "show(4, 0)",
            "show(5, 0)", "most()=16", "change(0, 3, 5)", "most()=16", "given(0)=0", "given(5)=-1");
        ROWS.run("Promise 16: a HEAD no more, nor given", "part(1)", "show(0, 0)", "most()=16", "given(0)=0", "change(0, 0, 4)", "most()=0", "given(0)=-1", "change(0, 0, 3)",
            "most()=13", "given(0)=0");
        ROWS.range("Promise 17: BEYOND", THREE, "given(?)", 0, 5);
        ROWS.run("Promise 17: none: there is no HEAD, or nobody is SHOWN", "given(0)=-1", "show(0, 0)", "given(0)=-1", "part(4)", "given(0)=-1", "part(1)",
            "given(0)=1", "given(1)=-1", "show(0, -1)", "given(0)=-1");
        ROWS.run("Promise 17: of several the least HEAD first, ROOM by ROOM", "part(1)", "part(1)", "part(1)", "show(1, 0)", "show(3, 0)", "given(1)=0",
            "given(3)=1", "show(0, 0)", "given(0)=0", "given(1)=1", "given(3)=2");
        ROWS.run("Promise 17: none last, though a HEAD is worth nothing", "part(1)", "change(0, 1, 255)", "show(2, 0)", "show(4, 0)", "most()=0", "given(2)=0",
            "given(4)=-1");
        ROWS.run("Promise 17: none last, but ahead of a GIVING that is worth less", "part(1)", "face(1, 0, 1)", "show(0, 1)", "show(1, 0)", "most()=16",
            "given(0)=-1", "given(1)=0");
        ROWS.range("Promise 18: BEYOND", THREE, "likest(?)", 0, 5);
        ROWS.run("Promise 18: NONE: there are no PARTS; BEYOND is asked ahead of it", "likest(0)=NONE", "likest(5)=NONE", "likest(6)=BEYOND", "likest(-1)=BEYOND",
            "part(5)", "likest(0)=0");
        ROWS.run("Promise 18: the last of ten", Rows.join(TEN, "change(9, 0, 2)", "likest(5)=9"));
        for (int i = 0; i < 10; i++) {
            ROWS.run("Promise 18: each of ten", Rows.join(TEN, "change(" + i + ", 1, 1)", "face(3, 0, 1)", "likest(3)=" + i));
            ROWS.run("Promise 28: each of ten", Rows.join(TEN, "change(" + i + ", 1, 1)", "face(3, 0, 1)", "mould(3)=" + i, "cuts(3)=0"));
        }
        ROWS.run("Promise 18: any PART, not HEADS alone", "part(1)", "part(4)", "change(0, 1, 15)", "likest(0)=1", "like(0, 0)=8", "like(1, 0)=11");
        ROWS.range("Promise 19: BEYOND", THREE, "whom(?)", 0, 2);
        ROWS.run("Promise 19: BEYOND: there is no PART yet", "whom(0)=BEYOND");
        ROWS.run("Promise 19: FACE 0 and FACE 5", "part(0)", "whom(0)=0", "change(0, 1, 9)", "face(5, 0, 9)", "whom(0)=5");
        for (int face = 0; face < 6; face++) {
            ROWS.run("Promise 19: each FACE", "part(0)", "change(0, 1, 255)", "face(" + face + ", 0, 1)", "whom(0)=" + face);
        }
        ROWS.range("Promise 20: BEYOND", THREE, "missed(?)", 0, 2);
        ROWS.run("Promise 20: BEYOND: there is no PART yet", "missed(0)=BEYOND");
        ROWS.run("Promise 20: 0: it is no HEAD, or one that is just as good is left; else all", "part(1)", "part(4)", "show(0, 0)", "missed(1)=0", "missed(0)=16",
            "part(1)", "missed(0)=0", "missed(2)=0", "change(2, 1, 1)", "missed(0)=2", "count(1)=3", "most()=16");
        ROWS.range("Promise 21: BEYOND", THREE, "recast(?)", 0, 2);
        ROWS.run("Promise 21: BEYOND: there is no PART yet", "recast(0)=BEYOND");
        ROWS.run("Promise 21: KIND: it is no HEAD, nor under it", Rows.join(ALL_KINDS, "recast(0)=KIND", "recast(1)=0", "recast(2)=0", "recast(3)=0",
            "recast(4)=KIND", "recast(5)=KIND", "recast(6)=KIND", "recast(7)=BEYOND"));
        ROWS.run("Promise 21: LOOKS 0 and 255, nothing changes", "part(1)", "show(0, 0)", "recast(0)=0", "face(0, 0, 255)", "recast(0)=255", "of(0, 1)=0");
        ROWS.run("Promise 21: what the other HEADS are given is left, what it was itself doesn't count", "part(1)", "part(1)", "change(0, 1, 240)", "change(1, 1, 15)",
            "face(1, 0, 15)", "face(2, 0, 240)", "show(0, 1)", "show(1, 2)", "recast(0)=240", "recast(1)=15", "change(1, 1, 240)", "recast(0)=15", "show(0, -1)", "recast(0)=0");
        ROWS.run("Promise 21: the last of ten", Rows.join(TEN, "face(0, 0, 3)", "show(5, 0)", "recast(9)=3", "change(0, 1, 3)", "recast(9)=0"));
        ROWS.range("Promise 22: BEYOND", THREE, "kindFor(?)", 0, 2);
        ROWS.run("Promise 22: BEYOND: there is no PART yet", "kindFor(0)=BEYOND");
        ROWS.run("Promise 22: PART where none helps, WIGGED, CROWNED with LOOK 7, nothing changes", "part(6)", "kindFor(0)=0", "show(0, 0)", "kindFor(0)=2",
            "face(0, 0, 128)", "kindFor(0)=3", "of(0, 0)=6", "part(3)", "change(1, 1, 128)", "kindFor(0)=0", "show(5, 0)", "kindFor(0)=3");
        ROWS.run("Promise 22: what it is itself doesn't count", "part(3)", "face(0, 0, 128)", "show(0, 0)", "kindFor(0)=3", "part(3)", "kindFor(0)=0", "kindFor(1)=0");
        ROWS.run("Promise 22: the last of ten", Rows.join(TEN, "show(5, 0)", "kindFor(9)=2", "change(0, 0, 2)", "kindFor(9)=0"));
    }

    private static void unseenMoves() {
        String[] seenOnce = {"part(5)", "change(0, 3, 0)", "pace(20)", "visitor()", "waits(19)"};
        ROWS.range("Promise 23: BEYOND: a PART", THREE, "unseen(?, 3)", 0, 2);
        ROWS.range("Promise 23: BEYOND: a place", THREE, "unseen(0, ?)", -1, 5);
        ROWS.run("Promise 23: BEYOND: there is no PART yet", "unseen(0, 0)=BEYOND");
        ROWS.run("Promise 23: STATE: it is there; BEYOND is asked ahead of it", "part(0)", "unseen(0, -1)=STATE", "unseen(1, -1)=BEYOND", "unseen(0, -2)=BEYOND",
            "change(0, 3, 5)", "unseen(0, 5)=STATE", "unseen(0, 4)=0");
        // He is in room 3 at minutes 60 to 79: what carries a minute must leave at 79, 60 minutes from 19 on.
        ROWS.run("Promise 23: 60 MINUTES, the most", Rows.join(seenOnce, "unseen(0, 3)=60", "waits(1)", "unseen(0, 3)=59"));
        ROWS.run("Promise 23: NONE: it would be 61", "part(5)", "change(0, 3, 0)", "pace(20)", "visitor()", "waits(18)", "unseen(0, 3)=NONE", "unseen(0, -1)=0");
        ROWS.run("Promise 23: 0, the fewest: nobody is there", "part(0)", "unseen(0, 0)=0", "change(0, 3, 3)", "unseen(0, 2)=0");
        ROWS.run("Promise 23: 0 and 1: it comes into the ROOM just as he leaves it", "part(5)", "change(0, 3, 0)", "visitor()", "waits(1)", "unseen(0, 0)=STATE",
            "waits(7)", "unseen(0, 1)=1", "waits(1)", "unseen(0, 1)=0", "move(0, 1)=10", "waits(60)=0");
        ROWS.run("Promise 23: those alone who are there now: one who comes later doesn't count", "part(5)", "change(0, 3, 5)", "pace(1)", "unseen(0, 0)=0",
            "visitor()", "unseen(0, 0)=0", "waits(5)", "unseen(0, 0)=0", "waits(1)", "seen(0, 1)=1", "unseen(0, 0)=0");
        ROWS.run("Promise 23: one who is gone doesn't count", "part(5)", "change(0, 3, 0)", "pace(1)", "visitor()", "waits(6)", "seen(0, 1)=1", "unseen(0, 5)=0");
        ROWS.run("Promise 23: the last PART of ten and the last VISITOR of four", Rows.join(TEN, "visitor()", "visitor()", "visitor()", "waits(60)", "change(9, 3, 0)", "visitor()=3",
            "unseen(9, 1)=0", "waits(1)", "seen(3, 1)=512", "unseen(9, 1)=7", "unseen(8, 1)=0", "hidden(1)=511", "waits(7)", "hidden(1)=1023"));
        ROWS.run("Promise 23: SEEN again in the same ROOM is not TWICE", "part(5)", "change(0, 3, 0)", "visitor()", "waits(1)", "change(0, 3, 1)", "unseen(0, 0)=0", "move(0, 0)=2",
            "waits(60)=0");
        ROWS.run("Promise 23: four VISITORS, the last one leaves the ROOM last", "part(5)", "change(0, 3, 0)", "visitor()", "waits(1)", "visitor()", "waits(1)", "visitor()", "waits(1)",
            "visitor()", "waits(1)", "unseen(0, 1)=8", "unseen(0, -1)=0");
        // Now in the room where it is, he would see it there if it waited, and in room 2 if it came there ahead of him.
        ROWS.run("Promise 23: one who has SEEN it TWICE doesn't count, who SAW it once does", "part(5)", "change(0, 3, 0)", "pace(20)", "visitor()",
            "waits(1)", "unseen(0, 2)=58", "waits(19)", "change(0, 3, 1)", "unseen(0, 2)=NONE", "waits(1)=1", "unseen(0, 2)=0");
        ROWS.run("Promise 23: waiting, he SEES it where it is: to move at once is to be SEEN once", "part(5)", "change(0, 3, 0)", "visitor()", "unseen(0, 1)=0",
            "waits(1)", "unseen(0, 1)=8");
        String[] planned = Rows.join(new String[] {"part(0)"}, Rows.times(150, "waits(60)"));
        ROWS.run("Promise 23: STATE: CLOCK is above 9000; 9000 is none", Rows.join(planned, "now(0)=9000", "unseen(0, 3)=0", "waits(1)", "unseen(0, 3)=STATE",
            "unseen(0, 6)=BEYOND", "unseen(1, 3)=BEYOND"));
        ROWS.run("Promise 24: STATE: CLOCK is above 9000; 9000 is none", Rows.join(planned, "now(0)=9000", "hidden(3)=1", "hidden(-1)=0", "waits(1)",
            "hidden(3)=STATE", "hidden(6)=BEYOND", "hidden(-2)=BEYOND"));
        ROWS.run("Promise 23: STATE is asked ahead of NONE", Rows.join(new String[] {"part(5)", "change(0, 3, 0)"}, Rows.join(Rows.times(149, "waits(60)"),
            "waits(42)", "pace(20)", "visitor()", "waits(18)", "now(0)=9000", "unseen(0, 3)=NONE", "waits(1)", "unseen(0, 3)=STATE")));
        ROWS.range("Promise 24: BEYOND", THREE, "hidden(?)", -1, 5);
        ROWS.run("Promise 24: nothing is there yet", "hidden(0)=0", "hidden(-1)=0");
        ROWS.run("Promise 24: PARTS that are there aren't told, all others are", Rows.join(TEN, "hidden(-1)=0", "hidden(0)=1023", "change(0, 3, 0)",
            "change(9, 3, 0)", "hidden(0)=510", "hidden(-1)=513", "hidden(5)=1023"));
        ROWS.run("Promise 24: at once, not with a minute of waiting", "part(5)", "change(0, 3, 0)", "visitor()", "waits(1)", "hidden(1)=0", "waits(7)", "unseen(0, 1)=1",
            "hidden(1)=0", "waits(1)", "unseen(0, 1)=0", "hidden(1)=1");
        ROWS.run("Promise 25: 0: nobody came, or they are gone; 1 in the last minute", "empty()=0", "visitor()", "empty()=30", "waits(29)", "empty()=1", "now(3)=1",
            "waits(1)", "empty()=0", "now(3)=0", "waits(60)", "empty()=0");
        ROWS.run("Promise 25: PACE 1 and 20", "visitor()", "pace(1)", "empty()=6", "pace(20)", "empty()=120");
        ROWS.run("Promise 25: all VISITORS: the last of four", "visitor()", "waits(1)", "visitor()", "waits(1)", "visitor()", "waits(1)", "visitor()", "empty()=30",
            "waits(29)", "empty()=1", "now(3)=8", "waits(1)", "empty()=0");
    }

    private static void papersAndMoulds() {
        ROWS.range("Promise 26: BEYOND: LOOKS", NOTHING, "worth(?, 0)", 0, 255);
        ROWS.range("Promise 26: BEYOND: what", NOTHING, "worth(0, ?)", 0, 1);
        String[] oneChance = {"face(0, 1, 0)", "face(1, 1, 0)", "face(2, 1, 0)", "face(3, 1, 0)", "face(4, 1, 0)"};
        ROWS.run("Promise 26: NONE: all CHANCES are 0, not with one of 1", Rows.join(oneChance, "worth(0, 0)=16", "worth(0, 1)=1", "face(5, 1, 0)", "worth(0, 0)=NONE",
            "worth(0, 1)=NONE", "face(0, 1, 1)", "worth(0, 0)=16"));
        ROWS.run("Promise 26: BEYOND is asked ahead of NONE", Rows.join(oneChance, "face(5, 1, 0)", "worth(256, 0)=BEYOND", "worth(-1, 0)=BEYOND", "worth(0, 2)=BEYOND",
            "worth(0, -1)=BEYOND", "worth(255, 1)=NONE"));
        ROWS.run("Promise 26: lowest terms: nothing above the line is 0 by 1", "worth(255, 0)=0", "worth(255, 1)=1", "face(0, 1, 99)", "worth(255, 0)=0",
            "worth(255, 1)=1");
        ROWS.run("Promise 26: lowest terms, all CHANCES 99", "face(0, 1, 99)", "face(1, 1, 99)", "face(2, 1, 99)", "face(3, 1, 99)", "face(4, 1, 99)", "face(5, 1, 99)",
            "worth(0, 0)=16", "worth(0, 1)=1", "face(0, 0, 1)", "worth(0, 0)=47", "worth(0, 1)=3");
        ROWS.run("Promise 26: no common divisor", "face(0, 1, 2)", "face(0, 0, 1)", "worth(0, 0)=108", "worth(0, 1)=7", "worth(1, 0)=102", "worth(1, 1)=7");
        ROWS.run("Promise 26: as a HEAD is LIKE, whatever PARTS there are", "part(3)", "part(5)", "worth(0, 0)=16", "face(0, 0, 128)", "worth(0, 0)=47", "worth(0, 1)=3");
        ROWS.run("Promise 27: NONE: all CHANCES are 0, not with one of 1", Rows.join(oneChance, "next()=0", "face(5, 0, 255)", "next()=255", "face(5, 1, 0)", "next()=NONE",
            "face(0, 1, 1)", "next()=0"));
        ROWS.run("Promise 27: a LOOK that is as likely as not isn't had", "face(0, 0, 128)", "face(1, 0, 128)", "face(2, 0, 128)", "next()=0", "face(0, 1, 2)", "next()=128",
            "face(5, 1, 2)", "next()=0");
        ROWS.range("Promise 28: BEYOND", THREE, "mould(?)", 0, 5);
        ROWS.run("Promise 28: NONE: there are no PARTS; BEYOND is asked ahead of it", "mould(0)=NONE", "mould(5)=NONE", "mould(6)=BEYOND", "mould(-1)=BEYOND", "part(5)",
            "mould(0)=0");
        ROWS.run("Promise 28: the first of ten and the last", Rows.join(TEN, "mould(0)=0", "face(5, 0, 1)", "mould(5)=0", "change(9, 2, 9)", "mould(5)=9",
            "change(0, 2, 9)", "mould(5)=0", "change(9, 1, 1)", "mould(5)=9"));
        ROWS.range("Promise 29: BEYOND", THREE, "cuts(?)", 0, 5);
        ROWS.run("Promise 29: NONE: there are no PARTS; BEYOND is asked ahead of it", "cuts(0)=NONE", "cuts(5)=NONE", "cuts(6)=BEYOND", "cuts(-1)=BEYOND", "part(5)",
            "cuts(0)=0");
        ROWS.run("Promise 29: nothing, the least, and 480, the most", "part(0)", "change(0, 2, 60)", "cuts(0)=0", "face(0, 0, 255)", "cuts(0)=480", "face(0, 0, 128)",
            "cuts(0)=60", "change(0, 2, 1)", "cuts(0)=1", "face(0, 0, 255)", "cuts(0)=8");
    }

    private static void tellings() {
        ROWS.range("Promise 30: BEYOND: no such sheet", SHEETS, "fits(?)", 0, 3);
        ROWS.run("Promise 30: BEYOND is asked ahead of MISSING", "fits(0)=MISSING", "fits(3)=MISSING", "fits(4)=BEYOND", "fits(-1)=BEYOND", "sheet(0, 8, 1)", "sheet(0, 0, 0)",
            "fits(0)=MISSING");
        ROWS.run("Promise 30: no numbers: one way, with HEADS and without", "sheet(0, 8, 0)", "fits(0)=1", "part(1)", "fits(0)=1");
        ROWS.run("Promise 30: no HEAD: no way", "sheet(0, 8, 1)", "fits(0)=0", "part(0)", "change(0, 1, 255)", "like(0, 0)=0", "fits(0)=0", "change(0, 0, 1)", "fits(0)=1");
        String[] sixteens = {"sheet(0, 8, 40)", "write(0, 0, 16)", "write(0, 1, 16)", "write(0, 2, 16)", "write(0, 3, 16)", "write(0, 4, 16)", "write(0, 5, 16)"};
        ROWS.run("Promise 30: an own HEAD for each: five are too few, six are just enough", Rows.join(sixteens, "part(1)", "part(1)", "part(1)", "part(1)", "part(1)",
            "fits(0)=0", "part(1)", "fits(0)=720"));
        ROWS.run("Promise 30: at most 6 numbers count, ten HEADS", Rows.join(Rows.join(TEN, sixteens), "fits(0)=151200", "write(0, 6, 99)", "fits(0)=151200", "write(0, 5, 15)",
            "fits(0)=0"));
        ROWS.run("Promise 30: just so much, not one more or less", "part(1)", "sheet(0, 8, 1)", "write(0, 0, 15)", "fits(0)=0", "write(0, 0, 16)", "fits(0)=1",
            "write(0, 0, 17)", "fits(0)=0", "write(0, 0, -16)", "fits(0)=0");
        ROWS.range("Promise 31: BEYOND: no such sheet", SHEETS, "maybe(?, 0)", 0, 3);
        ROWS.range("Promise 31: BEYOND: FACE not among three numbers", SHEETS, "maybe(0, ?)", 0, 2);
        ROWS.range("Promise 31: BEYOND: FACE not among six numbers", new String[] {"sheet(1, 8, 6)"}, "maybe(1, ?)", 0, 5);
        ROWS.range("Promise 31: BEYOND: FACE not among seven numbers, of which six count", new String[] {"sheet(1, 8, 7)"}, "maybe(1, ?)", 0, 5);
        ROWS.range("Promise 31: BEYOND: FACE not among forty numbers, of which six count", new String[] {"sheet(3, 32, 40)"}, "maybe(3, ?)", 0, 5);
        ROWS.run("Promise 31: BEYOND: there is no number", "sheet(0, 8, 0)", "maybe(0, 0)=BEYOND", "maybe(0, -1)=BEYOND");
        ROWS.run("Promise 31: BEYOND: each FACE that isn't among three numbers", "sheet(0, 8, 3)", "maybe(0, 2)=0", "maybe(0, 3)=BEYOND", "maybe(0, 4)=BEYOND", "maybe(0, 5)=BEYOND",
            "maybe(0, 6)=BEYOND", "maybe(0, 40)=BEYOND");
        ROWS.run("Promise 31: MISSING is asked behind the sheet, ahead of the FACE", "maybe(4, 0)=BEYOND", "maybe(4, 9)=BEYOND", "maybe(-1, 0)=BEYOND", "maybe(0, 0)=MISSING",
            "maybe(0, 6)=MISSING", "maybe(3, -1)=MISSING", "sheet(0, 8, 1)", "maybe(0, 6)=BEYOND");
        ROWS.run("Promise 31: no way: an empty set, though one HEAD is just so LIKE", "part(1)", "sheet(0, 8, 2)", "write(0, 0, 16)", "maybe(0, 0)=0", "maybe(0, 1)=0", "write(0, 1, 16)",
            "fits(0)=0", "maybe(0, 0)=0", "part(1)", "fits(0)=2", "maybe(0, 0)=3", "maybe(0, 1)=3");
        ROWS.run("Promise 31: all ten HEADS, the last alone", Rows.join(Rows.join(TEN, sixteens), "maybe(0, 5)=1023", "maybe(0, 0)=1023", "face(5, 0, 128)", "maybe(0, 5)=0",
            "change(9, 1, 128)", "maybe(0, 5)=512", "maybe(0, 0)=511"));
    }

    private static void fires() {
        ROWS.range("Promise 32: BEYOND: a set of three PARTS", THREE, "stand(?, 5)", 0, 7);
        ROWS.range("Promise 32: BEYOND: a set of ten PARTS", TEN, "stand(?, 5)", 0, 1023);
        ROWS.range("Promise 32: BEYOND: a set of no PARTS", NOTHING, "stand(?, 5)", 0, 0);
        ROWS.range("Promise 32: BEYOND: v", THREE, "stand(0, ?)", 0, 99);
        ROWS.run("Promise 32: none is there, none is lost, all are lost", "stand(0, 0)=0", "part(1)", "part(4)", "stand(0, 0)=63", "stand(2, 0)=63", "stand(1, 0)=0",
            "stand(3, 0)=0");
        ROWS.run("Promise 32: v or more: just v, one more", "part(1)", "stand(0, 16)=63", "stand(0, 17)=0", "face(5, 0, 1)", "stand(0, 14)=63", "stand(0, 15)=31",
            "stand(0, 16)=31", "face(0, 0, 255)", "stand(0, 0)=63", "stand(0, 1)=62");
        ROWS.run("Promise 32: each by itself: one HEAD does for all six FACES", Rows.join(TEN, "stand(511, 16)=63", "stand(1023, 0)=0"));
        ROWS.run("Promise 32: by a HEAD alone, or under it", "part(4)", "part(0)", "part(5)", "part(6)", "stand(0, 0)=0", "part(2)", "stand(0, 18)=63", "stand(15, 18)=63",
            "stand(16, 0)=0", "part(3)", "stand(16, 13)=63", "stand(16, 14)=0");
        ROWS.range("Promise 33: BEYOND: a FACE", THREE, "fire(?, 5)", 0, 5);
        ROWS.range("Promise 33: BEYOND: v", THREE, "fire(0, ?)", 0, 99);
        ROWS.run("Promise 33: nothing need be lost: there is no HEAD, none is so LIKE", "fire(0, 0)=0", "part(4)", "part(0)", "fire(0, 0)=0", "part(1)", "fire(0, 17)=0",
            "fire(0, 99)=0");
        ROWS.run("Promise 33: v or more: just v, one more", "part(1)", "fire(0, 16)=1", "fire(0, 17)=0", "face(0, 0, 255)", "fire(0, 0)=1", "fire(0, 1)=0");
        ROWS.run("Promise 33: all ten, the last alone", Rows.join(TEN, "fire(5, 0)=1023", "change(9, 0, 2)", "fire(5, 17)=512", "count(1)=10"));
    }

    private static void drawsAndTape() {
        ROWS.range("Promise 34: BEYOND", NOTHING, "papers(?)", 1, 12);
        ROWS.run("Promise 34: 1 paper and 12, two draws each", "papers(1)=0", "count(6)=-1770082073", "seed(1)", "papers(12)=0", "count(6)=" + after(1, 24));
        ROWS.run("Promise 34: what is refused draws nothing", "papers(0)=BEYOND", "count(6)=1", "papers(13)=BEYOND", "count(6)=1", "count(3)=0");
        ROWS.run("Promise 35: any int, the least and the greatest", "seed(-2147483648)=1", "seed(2147483647)=-2147483648", "seed(1)=2147483647", "seed(1)=1");
        ROWS.range("Promise 36: BEYOND: n", NOTHING, "feed(0, ?)", 1, 4);
        String[] nearly = Rows.times(29, "feed(538976288, 4)");
        ROWS.run("Promise 36: 120 bytes, by four, and FULL", Rows.join(nearly, "count(5)=116", "feed(538976288, 4)=120", "feed(32, 1)=FULL", "feed(32, 4)=FULL", "count(5)=120"));
        ROWS.run("Promise 36: FULL: four where three have place; three have", Rows.join(nearly, "feed(32, 1)=117", "feed(538976288, 4)=FULL", "count(5)=117", "feed(538976288, 3)=120"));
        ROWS.run("Promise 36: BEYOND is asked ahead of FULL", Rows.join(nearly, "feed(0, 4)=120", "feed(0, 0)=BEYOND", "feed(0, 5)=BEYOND", "feed(0, -1)=BEYOND", "feed(0, 1)=FULL"));
        // The bytes of 1885430629 are "pace", those of 892679477 are "5555".
        ROWS.run("Promise 36: what is refused leaves no bytes", "feed(1885430629, 4)=4", "feed(892679477, 5)=BEYOND", "feed(892679477, 0)=BEYOND", "feed(54, 1)=5", "text()=1", "now(1)=6");
        // Their bytes: 825373491 "1233", 959525173 "9115", 958411065 "9 19", 540028983 " 007".
        ROWS.run("Promise 36: n is 1: the lowest byte", "feed(1885430629, 4)=4", "feed(825373491, 1)=5", "text()=1", "now(1)=3");
        ROWS.run("Promise 36: n is 2: the two lowest bytes, the higher first", "feed(1885430629, 4)=4", "feed(959525173, 2)=6", "text()=1", "now(1)=15");
        ROWS.run("Promise 36: n is 3: the three lowest bytes, the highest of these first", "feed(1885430629, 4)=4", "feed(958411065, 3)=7", "text()=1", "now(1)=19");
        ROWS.run("Promise 36: n is 4: all four bytes, the highest first", "feed(1885430629, 4)=4", "feed(540028983, 4)=8", "text()=1", "now(1)=7");
        ROWS.run("Promise 36: bytes above 127 come as they are, and spill into no other", "feed(-1, 4)=4", "text()=-1", "feed(1885430629, 4)=4", "feed(-1, 1)=5", "text()=-5",
            "feed(1885430629, 4)=4", "feed(-207, 1)=5", "text()=1", "now(1)=1");
        ROWS.run("Promise 36: bytes by one, two, three at a time", "feed(112, 1)=1", "feed(24931, 2)=3", "feed(6627377, 3)=6", "feed(1885430585, 1)=7", "text()=1", "now(1)=19");
        ROWS.run("Promise 37: nothing, and all 120", Rows.join(nearly, "wipe()=116", "wipe()=0", "count(5)=0", "feed(1, 1)=1", "wipe()=1"));
        ROWS.run("Promise 37: 120, and place again", Rows.join(nearly, "feed(0, 4)=120", "wipe()=120", "feed(0, 4)=4"));
    }

    private static int after(int z, int draws) {
        int now = z;
        for (int i = 0; i < draws; i++) {
            now = now * 1103515245 + 12345;
        }
        return now;
    }

    private static void spots() {
        String[] held = Rows.join(THREE, "hold(0, 0)", "hold(9, 2)");
        ROWS.range("Promise 39: BEYOND: a SPOT", THREE, "hold(?, 0)", 0, 9);
        ROWS.range("Promise 39: BEYOND: a PART, or nothing", THREE, "hold(0, ?)", -1, 2);
        ROWS.run("Promise 39: BEYOND: there is no PART yet; nothing is fine", "hold(0, 0)=BEYOND", "hold(0, -1)=1", "count(7)=0", "hold(9, -1)=1", "hold(10, -1)=BEYOND");
        ROWS.run("Promise 39: all SPOTS, one PART in several, then nothing", "part(2)", "hold(0, 0)=1", "hold(1, 0)=1", "hold(2, 0)=1", "hold(3, 0)=1", "hold(4, 0)=1",
            "hold(5, 0)=1", "hold(6, 0)=1", "hold(7, 0)=1", "hold(8, 0)=1", "count(7)=9", "hold(9, 0)=1", "count(7)=10", "as(9, 0)=0", "hold(9, -1)=1",
            "count(7)=9", "as(9, 0)=MISSING", "as(8, 2)=0");
        ROWS.range("Promise 40: BEYOND: a SPOT", held, "as(?, 0)", 0, 9);
        ROWS.range("Promise 40: BEYOND: a kind", held, "as(9, ?)", 0, 6);
        ROWS.run("Promise 40: MISSING: it holds nothing; BEYOND is asked ahead of it", "as(0, 0)=MISSING", "as(9, 6)=MISSING", "as(0, 7)=BEYOND", "as(0, -1)=BEYOND", "as(10, 0)=BEYOND");
        ROWS.run("Promise 40: BEYOND is asked ahead of KIND", "part(0)", "hold(0, 0)", "as(0, 1)=KIND", "as(0, 7)=BEYOND", "as(-1, 1)=BEYOND");
        String[] row = {"part(0)", "hold(0, 0)"};
        String[] under = {"1000000", "1100000", "1110000", "1111000", "1000100", "1000010", "1000011"};
        for (int kind = 0; kind < under.length; kind++) {
            String[] rows = Rows.join(row, "change(0, 0, " + kind + ")");
            for (int asked = 0; asked < under.length; asked++) {
                rows = Rows.join(rows, "as(0, " + asked + ")=" + (under[kind].charAt(asked) == '1' ? "0" : "KIND"));
            }
            ROWS.run("Promise 40: KIND: it isn't of that kind, nor of one under it: kind " + kind, rows);
        }
        ROWS.run("Promise 40: the number of the last PART of ten", Rows.join(TEN, "hold(5, 9)", "as(5, 1)=9"));
    }

    private static void sheets() {
        ROWS.range("Promise 41: BEYOND: no such sheet", NOTHING, "sheet(?, 8, 1)", 0, 3);
        for (int bits : new int[] {-32, -8, -1, 1, 4, 7, 9, 15, 17, 24, 31, 33, 64, 256, 2147483647, -2147483648}) {
            ROWS.run("Promise 41: BEYOND: other bits, " + bits, "sheet(0, 8, 2)", "write(0, 0, 9)", "sheet(0, " + bits + ", 1)=BEYOND", "sheet(0, " + bits + ", -1)=BEYOND",
                "sheet(0, " + bits + ", 41)=BEYOND", "judge(0)=1");
        }
        for (int bits : new int[] {0, 8, 16, 32}) {
            String[] rows = {"sheet(0, " + bits + ", -1)=SIZE", "sheet(0, " + bits + ", -2147483648)=SIZE", "sheet(0, " + bits + ", 41)=BEYOND",
                "sheet(0, " + bits + ", 2147483647)=BEYOND", "sheet(4, " + bits + ", -1)=BEYOND", "sheet(-1, " + bits + ", -1)=BEYOND"};
            ROWS.run("Promise 41: SIZE: n is below 0, BEYOND: n is above 40, with bits " + bits, Rows.join(SHEETS, rows));
        }
        ROWS.run("Promise 41: n is 0 and 40", "sheet(0, 8, 0)=0", "judge(0)=0", "write(0, 0, 1)=BEYOND", "sheet(0, 8, 40)=40", "write(0, 39, 1)=1", "write(0, 40, 1)=BEYOND",
            "sheet(3, 32, 40)=40", "write(3, 39, 1)=1", "sheet(2, 16, 40)=40", "write(2, 39, 1)=1", "sheet(2, 16, 0)=0", "write(2, 0, 0)=BEYOND");
        ROWS.run("Promise 41: bits 0: it is MISSING, 0", "sheet(0, 0, 0)=0", "sheet(0, 0, 40)=0", "judge(0)=MISSING", "sheet(0, 8, 3)=3", "judge(0)=0", "sheet(0, 0, 3)=0",
            "judge(0)=MISSING");
        ROWS.run("Promise 41: all 0, also where others stood", "sheet(0, 8, 6)", "write(0, 0, 5)", "write(0, 5, 5)", "judge(0)=1", "sheet(0, 8, 6)=6", "judge(0)=0", "write(0, 5, 5)",
            "sheet(0, 8, 2)=2", "sheet(0, 8, 6)=6", "judge(0)=0", "write(0, 4, 5)", "sheet(0, 0, 0)=0", "sheet(0, 16, 6)=6", "judge(0)=0");
        ROWS.run("Promise 41: the other sheets stay as they are", Rows.join(SHEETS, "sheet(1, 0, 0)=0", "judge(0)=1", "judge(2)=1", "judge(3)=1", "load(0)=1", "of(0, 2)=5"));
        ROWS.range("Promise 42: BEYOND: no such sheet", SHEETS, "write(?, 0, 1)", 0, 3);
        ROWS.range("Promise 42: BEYOND: no such number", SHEETS, "write(0, ?, 1)", 0, 2);
        ROWS.run("Promise 42: BEYOND ahead of MISSING, MISSING ahead of BEYOND", "write(4, 0, 0)=BEYOND", "write(-1, 99, 0)=BEYOND", "write(0, 0, 0)=MISSING", "write(0, -1, 0)=MISSING",
            "write(0, 40, 0)=MISSING", "sheet(0, 8, 0)", "write(0, 0, 0)=BEYOND");
        ROWS.run("Promise 42: the other numbers stay as they are", "part(1)", "part(1)", "part(1)", "sheet(0, 8, 3)", "write(0, 0, 7)=1", "write(0, 2, 9)=1", "write(0, 1, 8)=1",
            "load(0)=3", "of(0, 2)=7", "of(1, 2)=8", "of(2, 2)=9");
        signs();
    }

    /** Seven heads and two parts, one with a look, are 127 in room 0; one look less makes it 128. */
    private static void signs() {
        String[] many = {
            "tape head in 0;head in 0;head in 0;head in 0;head in 0;head in 0;head in 0;part in 0;part looks 1 in 0;show 0 0", "text()=10", "room(0, 2)=127",
            "sheet(0, 8, 1)", "sheet(1, 16, 1)", "sheet(2, 32, 1)"
        };
        ROWS.run("Promise 42: of 8 bits 127 is 127, 128 is -128", Rows.join(many, "write(0, 0, 127)", "judge(0)=0", "write(0, 0, 383)", "judge(0)=0", "write(0, 0, -129)", "judge(0)=0",
            "change(8, 1, 0)", "room(0, 2)=128", "write(0, 0, 128)", "judge(0)=1", "write(0, 0, 384)", "judge(0)=1"));
        ROWS.run("Promise 42: of 16 bits 128 is 128, 65535 is -1, 65536 is 0", Rows.join(many, "change(8, 1, 0)", "write(1, 0, 128)", "judge(1)=0", "write(1, 0, 65664)", "judge(1)=0",
            "write(1, 0, -65408)", "judge(1)=0", "show(0, -1)", "write(1, 0, 65535)", "judge(1)=1", "write(1, 0, 65536)", "judge(1)=0", "write(1, 0, 256)", "judge(1)=1"));
        ROWS.run("Promise 42: of 32 bits all count", Rows.join(many, "change(8, 1, 0)", "write(2, 0, 128)", "judge(2)=0", "write(2, 0, 65664)", "judge(2)=1", "show(0, -1)",
            "write(2, 0, 65536)", "judge(2)=1", "write(2, 0, -2147483648)", "judge(2)=1", "write(2, 0, 16777216)", "judge(2)=1", "write(2, 0, 0)", "judge(2)=0"));
        ROWS.run("Promise 42: of 8 bits 255 is -1, 256 is 0", "sheet(0, 8, 1)", "write(0, 0, 255)=1", "judge(0)=1", "write(0, 0, 256)=1", "judge(0)=0", "write(0, 0, -256)=1",
            "judge(0)=0", "write(0, 0, -2147483648)=1", "judge(0)=0", "write(0, 0, 2147483647)=1", "judge(0)=1");
    }

    private static void copies() {
        String[] rows = {
            "part(0)", "part(0)", "part(0)", "part(0)", "sheet(0, 8, 4)", "sheet(1, 8, 3)", "sheet(2, 16, 4)", "write(0, 0, 11)", "write(0, 1, 12)", "write(0, 2, 13)",
            "write(0, 3, 14)", "write(1, 0, 21)", "write(1, 1, 22)", "write(1, 2, 23)"
        };
        ROWS.range("Promise 43: BEYOND: no such sheet, from", SHEETS, "copy(?, 0, 0, 0, 1)", 0, 3);
        ROWS.range("Promise 43: BEYOND: no such sheet, to", SHEETS, "copy(0, 0, ?, 0, 1)", 0, 3);
        ROWS.range("Promise 43: BEYOND: one has not so many, from, one number", rows, "copy(0, ?, 1, 0, 1)", 0, 3);
        ROWS.range("Promise 43: BEYOND: one has not so many, to, one number", rows, "copy(0, 0, 1, ?, 1)", 0, 2);
        ROWS.range("Promise 43: BEYOND: one has not so many, from, no number", rows, "copy(0, ?, 1, 0, 0)", 0, 4);
        ROWS.range("Promise 43: BEYOND: one has not so many, to, no number", rows, "copy(0, 0, 1, ?, 0)", 0, 3);
        ROWS.range("Promise 43: BEYOND: one has not so many, the second", rows, "copy(0, 0, 1, 0, ?)", 0, 3);
        ROWS.range("Promise 43: BEYOND: one has not so many, the first", rows, "copy(1, 0, 0, 0, ?)", 0, 3);
        ROWS.range("Promise 43: BEYOND: one has not so many, from 2 on", rows, "copy(0, 2, 1, 0, ?)", 0, 2);
        ROWS.range("Promise 43: BEYOND: one has not so many, to 2 on", rows, "copy(0, 0, 1, 2, ?)", 0, 1);
        ROWS.run("Promise 43: BEYOND, sums that go over an int's end", Rows.join(rows, "copy(0, 2147483647, 1, 0, 1)=BEYOND", "copy(0, 1, 1, 0, 2147483647)=BEYOND",
            "copy(0, 0, 1, 2147483647, 2147483647)=BEYOND", "copy(0, 2147483647, 1, 2147483647, 2147483647)=BEYOND", "copy(0, -2147483648, 1, 0, 2147483647)=BEYOND"));
        ROWS.run("Promise 43: BEYOND, MISSING, KIND, BEYOND are asked in this order", Rows.join(rows, "copy(4, 0, 3, 0, -1)=BEYOND", "copy(3, 0, 4, 0, 1)=BEYOND", "copy(-1, 0, 0, 0, 1)=BEYOND",
            "copy(0, 0, -1, 0, 1)=BEYOND", "copy(3, 0, 2, 0, -1)=MISSING", "copy(2, 0, 3, -1, 1)=MISSING", "copy(3, 0, 3, 0, 0)=MISSING", "copy(0, 0, 2, 0, -1)=KIND",
            "copy(2, -1, 0, 0, 1)=KIND", "copy(0, 9, 2, 9, 9)=KIND", "copy(0, 0, 2, 0, 0)=KIND", "copy(0, 0, 1, 0, -1)=BEYOND"));
        ROWS.run("Promise 43: KIND: each pair of bits", "sheet(0, 8, 1)", "sheet(1, 16, 1)", "sheet(2, 32, 1)", "sheet(3, 32, 1)", "copy(0, 0, 1, 0, 1)=KIND", "copy(1, 0, 0, 0, 1)=KIND",
            "copy(0, 0, 2, 0, 1)=KIND", "copy(2, 0, 1, 0, 1)=KIND", "copy(2, 0, 3, 0, 1)=1");
        ROWS.run("Promise 43: none is copied, at the very end too", Rows.join(rows, "copy(0, 0, 1, 0, 0)=0", "copy(0, 4, 1, 3, 0)=0", "load(1)=3", "of(0, 2)=21"));
        ROWS.run("Promise 43: all, the last one", Rows.join(rows, "copy(1, 0, 0, 1, 3)=3", "load(0)=4", "of(0, 2)=11", "of(1, 2)=21", "of(3, 2)=23", "copy(1, 0, 0, 3, 1)=1", "load(0)=4",
            "of(3, 2)=21", "load(1)=3", "of(0, 2)=21", "of(2, 2)=23"));
        ROWS.run("Promise 43: as they all were: forth within one sheet", Rows.join(rows, "copy(0, 0, 0, 1, 3)=3", "load(0)=4", "of(0, 2)=11", "of(1, 2)=11", "of(2, 2)=12", "of(3, 2)=13"));
        ROWS.run("Promise 43: as they all were: back within one sheet", Rows.join(rows, "copy(0, 1, 0, 0, 3)=3", "load(0)=4", "of(0, 2)=12", "of(1, 2)=13", "of(2, 2)=14", "of(3, 2)=14"));
        ROWS.run("Promise 43: onto itself", Rows.join(rows, "copy(0, 0, 0, 0, 4)=4", "load(0)=4", "of(0, 2)=11", "of(3, 2)=14"));
        ROWS.run("Promise 43: forty", "sheet(0, 32, 40)", "sheet(1, 32, 40)", "write(0, 39, 5)", "copy(0, 0, 1, 0, 40)=40", "copy(0, 0, 1, 0, 41)=BEYOND", "copy(1, 39, 1, 0, 1)=1", "judge(1)=1");
    }

    private static void readers() {
        ROWS.range("Promise 44: BEYOND: no such sheet", SHEETS, "load(?)", 0, 3);
        ROWS.run("Promise 44: BEYOND is asked ahead of MISSING", "load(4)=BEYOND", "load(-1)=BEYOND", "load(0)=MISSING", "load(3)=MISSING");
        ROWS.run("Promise 44: 1 and 60 come, 0, 61 and -1 end it", "part(0)", "part(0)", "sheet(0, 8, 2)", "load(0)=0", "of(0, 2)=10", "write(0, 0, 1)", "load(0)=1", "of(0, 2)=1",
            "write(0, 0, 60)", "load(0)=1", "of(0, 2)=60", "write(0, 0, 61)", "load(0)=0", "of(0, 2)=60", "write(0, 0, -1)", "load(0)=0", "of(0, 2)=60", "of(1, 2)=10");
        ROWS.run("Promise 44: it ends at the first that isn't so; those behind don't come", "part(0)", "part(0)", "part(0)", "sheet(0, 8, 3)", "write(0, 0, 5)", "write(0, 2, 7)",
            "load(0)=1", "of(0, 2)=5", "of(1, 2)=10", "of(2, 2)=10", "write(0, 1, 6)", "load(0)=3", "of(2, 2)=7");
        ROWS.run("Promise 44: it ends where there is no PART", "sheet(0, 8, 2)", "write(0, 0, 5)", "write(0, 1, 6)", "load(0)=0", "part(0)", "load(0)=1", "of(0, 2)=5", "part(0)",
            "of(1, 2)=10", "load(0)=2", "of(1, 2)=6");
        ROWS.run("Promise 44: no numbers, fewer than PARTS", "part(0)", "part(0)", "sheet(0, 8, 0)", "load(0)=0", "sheet(0, 8, 1)", "write(0, 0, 9)", "load(0)=1", "of(1, 2)=10");
        ROWS.run("Promise 44: all ten of forty", Rows.join(TEN, "sheet(0, 8, 40)", "write(0, 0, 3)", "copy(0, 0, 0, 1, 1)", "copy(0, 0, 0, 2, 2)", "copy(0, 0, 0, 4, 4)", "copy(0, 0, 0, 8, 8)",
            "load(0)=10", "count(4)=30"));
        ROWS.range("Promise 45: BEYOND: no such sheet", SHEETS, "judge(?)", 0, 3);
        ROWS.run("Promise 45: BEYOND is asked ahead of MISSING", "judge(4)=BEYOND", "judge(-1)=BEYOND", "judge(0)=MISSING", "judge(3)=MISSING");
        ROWS.run("Promise 45: 0: no numbers, six that are so", "sheet(0, 8, 0)", "judge(0)=0", "sheet(0, 8, 6)", "judge(0)=0");
        ROWS.run("Promise 45: the seventh stands for no ROOM", "sheet(0, 8, 7)", "judge(0)=7", "sheet(0, 8, 40)", "judge(0)=7", "write(0, 5, 1)", "judge(0)=6", "write(0, 0, -1)", "judge(0)=1");
        ROWS.run("Promise 45: just so: not one more or less", "part(1)", "change(0, 3, 5)", "show(5, 0)", "sheet(0, 8, 6)", "judge(0)=6", "write(0, 5, 15)", "judge(0)=6", "write(0, 5, 17)",
            "judge(0)=6", "write(0, 5, 16)", "judge(0)=0");
    }

    private static void images() {
        ROWS.run("Promise 46: THE TAPE and SHEETS are not kept", "tape pace 7", "sheet(0, 8, 1)", "image()=1", "wipe()=6", "sheet(0, 8, 3)", "sheet(1, 8, 2)", "undo()=0", "count(5)=0",
            "write(0, 2, 1)=1", "write(1, 1, 1)=1", "tape pace 9", "undo()=0", "text()=1", "now(1)=9");
        ROWS.run("Promise 46: all else is: PARTS, FACES, ROOMS, VISITORS, what they SAW, SPOTS, z, PACE, CLOCK", "part(1)", "change(0, 3, 0)", "face(0, 0, 3)", "face(0, 1, 4)", "show(5, 0)",
            "visitor()", "waits(5)", "change(0, 3, 1)", "hold(9, 0)", "seed(44)", "pace(6)", "image()=1", "change(0, 0, 5)", "change(0, 1, 5)", "change(0, 2, 5)", "change(0, 3, 5)",
            "face(0, 0, 5)", "face(0, 1, 5)", "show(5, 5)", "show(0, 5)", "part(5)", "visitor()", "waits(1)", "hold(9, -1)", "hold(0, 0)", "seed(5)", "pace(5)", "undo()=5",
            "of(0, 0)=1", "of(0, 1)=0", "of(0, 2)=10", "of(0, 3)=1", "face(0, 0, 3)=3", "face(0, 1, 4)=4", "room(5, 0)=0", "room(0, 0)=-1", "count(1)=1", "count(2)=1",
            "seen(0, 1)=1", "seen(0, 2)=0", "as(9, 1)=0", "as(0, 0)=MISSING", "count(6)=44", "now(1)=6", "seen(0, 0)=0");
        ROWS.run("Promise 46: an image of a new object", "image()=1", "part(0)", "waits(3)", "undo()=0", "count(1)=0", "part(6)=0");
        ROWS.run("Promise 46: what the last VISITOR of four has SEEN of the last PART of ten", Rows.join(TEN, "change(9, 3, 0)", "pace(1)", "visitor()", "visitor()", "visitor()", "visitor()",
            "image()", "waits(1)", "seen(3, 1)=512", "undo()=0", "seen(3, 1)=0", "waits(1)", "image()", "change(9, 3, 1)", "waits(1)=1", "undo()=1", "seen(3, 1)=512", "seen(3, 2)=0"));
        ROWS.run("Promise 47: NONE: nothing is kept", "undo()=NONE", "image()", "undo()=0", "tear()=1", "undo()=NONE", "part(0)", "undo()=NONE", "count(1)=1");
        ROWS.run("Promise 47: what was kept latest", "waits(1)", "image()", "waits(2)", "image()", "waits(3)", "undo()=3", "now(0)=3");
        ROWS.run("Promise 47: which stays", "part(0)", "image()", "change(0, 1, 5)", "undo()=0", "change(0, 1, 6)", "face(0, 0, 6)", "hold(0, 0)", "show(0, 0)", "undo()=0", "of(0, 1)=0",
            "face(0, 0, 0)=0", "count(7)=0", "count(3)=0", "undo()=0", "tear()=1");
        ROWS.run("Promise 47: CLOCK 9999, the most", Rows.join(Rows.times(166, "waits(60)"), "waits(39)", "image()=1", "undo()=9999", "now(0)=9999"));
        ROWS.run("Promise 48: 1 if something was, else 0", "tear()=0", "image()", "tear()=1", "tear()=0", "image()", "image()", "tear()=1", "tear()=0");
        ROWS.run("Promise 48: what is stays as it is", "part(0)", "image()", "change(0, 1, 7)", "tear()=1", "of(0, 1)=7", "count(1)=1");
        ROWS.range("Promise 49: BEYOND: another what", THREE, "count(?)", 0, 7);
        ROWS.run("Promise 49: nothing is there yet", "count(0)=0", "count(1)=0", "count(2)=0", "count(3)=0", "count(4)=0", "count(5)=0", "count(6)=1", "count(7)=0");
        ROWS.run("Promise 49: the most of each", Rows.join(TEN, "count(1)=10", "count(4)=100", "change(0, 2, 60)", "change(1, 2, 60)", "change(2, 2, 60)", "change(3, 2, 60)", "change(4, 2, 60)",
            "change(5, 2, 60)", "change(6, 2, 60)", "change(7, 2, 60)", "change(8, 2, 60)", "change(9, 2, 60)", "count(4)=600", "visitor()", "visitor()", "visitor()", "visitor()",
            "count(2)=4", "waits(60)", "count(2)=4", "show(0, 0)", "show(1, 1)", "show(2, 2)", "show(3, 3)", "show(4, 4)", "count(3)=5", "show(5, 5)", "count(3)=6"));
        ROWS.run("Promise 49: 120 bytes of THE TAPE", Rows.join(Rows.times(30, "feed(0, 4)"), "count(5)=120", "feed(0, 1)=FULL", "count(5)=120", "text()=-1", "count(5)=0"));
        ROWS.range("Promise 50: BEYOND: another one", THREE, "status(?)", -1, 6);
        ROWS.run("Promise 50: BEYOND, counted from then on", "status(0)=0", "status(7)=BEYOND", "status(0)=1", "status(-1)=1", "status(-2)=BEYOND", "status(0)=2", "status(-1)=2");
        ROWS.run("Promise 50: undo() takes none back", "image()", "part(7)=BEYOND", "load(0)=MISSING", "undo()=0", "status(-1)=2", "status(0)=1", "status(5)=1", "tear()=1", "undo()=NONE",
            "status(-1)=3", "status(3)=1");
        ROWS.run("Promise 50: image() keeps none either", "part(7)=BEYOND", "image()", "status(-1)=1", "part(7)=BEYOND", "undo()=0", "status(-1)=2");
        ROWS.run("Promise 50: nothing yet, of each", "status(-1)=0", "status(0)=0", "status(1)=0", "status(2)=0", "status(3)=0", "status(4)=0", "status(5)=0", "status(6)=0");
    }

    private static void callsThatAsk() {
        String[] setUp = {
            "tape head looks 3 in 0;wigged looks 200 wax 4 in 1;crowned in 5;body;hands in 2", "text()=5", "tape face 1 looks 200 chance 9;show 0 1;show 2 0;show 5 2",
            "text()=4", "pace(3)", "visitor()", "waits(4)", "visitor()", "hold(4, 1)", "sheet(0, 8, 2)", "write(0, 0, 12)", "seed(5)", "image()", "change(0, 1, 7)", "tape pace 3"
        };
        ROWS.asking("Promises 16, 17, 18, 19, 20, 21, 22: givings (nothing changes)", setUp, "most()", "given(0)", "given(2)", "given(5)", "likest(0)", "likest(1)", "whom(0)", "whom(3)",
            "missed(0)", "missed(2)", "missed(4)", "recast(0)", "recast(1)", "recast(2)", "kindFor(0)", "kindFor(2)", "kindFor(3)", "kindFor(4)");
        ROWS.asking("Promises 3, 8, 9, 10, 12, 15: asking of PARTS, ROOMS, MINUTES changes nothing", setUp, "of(1, 3)", "room(0, 0)", "room(0, 1)", "room(0, 2)", "room(1, 3)", "like(2, 1)",
            "carries(3, 5)", "seen(0, 0)", "seen(0, 1)", "seen(1, 2)", "now(2)", "now(3)", "now(5)");
        ROWS.asking("Promises 23, 24, 25: a MOVE is only thought of", setUp, "unseen(0, 3)", "unseen(1, 2)", "hidden(1)", "hidden(-1)", "empty()");
        ROWS.asking("Promises 26, 27, 28, 29, 30, 31, 32, 33: asking of papers, moulds, tellings, fires changes nothing", setUp, "worth(9, 0)", "worth(9, 1)", "next()", "mould(1)", "cuts(1)",
            "fits(0)", "maybe(0, 1)", "stand(5, 9)", "fire(1, 3)");
        ROWS.asking("Promises 40, 45, 49, 50: asking of SPOTS, sheets, how many changes nothing", setUp, "as(4, 1)", "judge(0)", "count(4)", "count(5)", "count(6)", "status(-1)", "status(2)");
    }

    public static void main(String[] args) {
        parts();
        rooms();
        minutes();
        givings();
        unseenMoves();
        papersAndMoulds();
        tellings();
        fires();
        drawsAndTape();
        spots();
        sheets();
        copies();
        readers();
        images();
        callsThatAsk();
        for (int promise = 1; promise <= PROMISES; promise++) {
            // EdgesOfTextsTest has those of text().
            if (promise != 38 && !ROWS.names(promise)) {
                ROWS.complain("Promise " + promise, "no run names it");
            }
        }
        ROWS.end();
    }
}
