import java.util.ArrayList;
import java.util.List;

/**
 * Each promise by itself, in runs of rows (Rows says what a row is).
 */
public final class PromiseTest {
    private static final Rows ROWS = new Rows();

    private static final String[] ALL_KINDS = {
        "part(0)=0", "part(1)=1", "part(2)=2", "part(3)=3", "part(4)=4", "part(5)=5", "part(6)=6"
    };
    private static final String[] TEN = {
        "part(0)", "part(0)", "part(0)", "part(0)", "part(0)", "part(0)", "part(0)", "part(0)", "part(0)", "part(0)"
    };

    private static void newObject() {
        ROWS.run("1 new", "count(0)=0", "count(1)=0", "count(2)=0", "count(3)=0", "count(4)=0", "count(5)=0", "count(6)=1",
            "count(7)=0", "now(1)=5", "status(-1)=0", "undo()=NONE", "tear()=0", "face(5, 0, 0)=0", "face(5, 1, 1)=1",
            "show(5, -1)=-1", "room(0, 0)=-1", "judge(0)=MISSING", "judge(3)=MISSING", "as(0, 0)=MISSING",
            "as(9, 0)=MISSING", "seed(1)=1", "wipe()=0", "seen(0, 0)=BEYOND", "empty()=0");
    }

    private static void parts() {
        ROWS.run("2 part", "part(6)=0", "part(0)=1", "part(-1)=BEYOND", "part(7)=BEYOND", "of(0, 0)=6", "of(0, 1)=0",
            "of(0, 2)=10", "of(0, 3)=-1");
        ROWS.run("2 part, full", Rows.join(TEN, "part(1)=FULL", "part(7)=BEYOND", "count(1)=10", "of(9, 0)=0"));
        ROWS.run("3 of", "of(0, 0)=BEYOND", "part(3)=0", "change(0, 1, 200)", "change(0, 2, 33)", "change(0, 3, 4)",
            "of(0, 0)=3", "of(0, 1)=200", "of(0, 2)=33", "of(0, 3)=4", "of(0, 4)=BEYOND", "of(0, -1)=BEYOND",
            "of(1, 0)=BEYOND", "of(-1, 0)=BEYOND", "of(-2147483648, 2147483647)=BEYOND");
        ROWS.run("4 change", "change(0, 0, 0)=BEYOND", "part(1)=0", "change(0, 0, 6)=1", "change(0, 0, 0)=6",
            "change(0, 0, 7)=BEYOND", "change(0, 0, -1)=BEYOND", "change(0, 1, 255)=0", "change(0, 1, 256)=BEYOND",
            "change(0, 1, -1)=BEYOND", "change(0, 1, 0)=255", "change(0, 2, 60)=10", "change(0, 2, 1)=60",
            "change(0, 2, 0)=BEYOND", "change(0, 2, 61)=BEYOND", "change(0, 3, 5)=-1", "change(0, 3, -1)=5",
            "change(0, 3, 6)=BEYOND", "change(0, 3, -2)=BEYOND", "change(0, 4, 1)=BEYOND", "change(0, -1, 1)=BEYOND",
            "change(1, 1, 1)=BEYOND", "change(-1, 1, 1)=BEYOND", "change(0, 3, 2)=-1", "change(0, 3, 2)=2", "count(0)=0");
        ROWS.run("5 face", "face(0, 0, 255)=0", "face(0, 0, 7)=255", "face(0, 1, 99)=1", "face(0, 1, 0)=99",
            "face(5, 1, 3)=1", "face(0, 0, 256)=BEYOND", "face(0, 0, -1)=BEYOND", "face(0, 1, 100)=BEYOND",
            "face(0, 1, -1)=BEYOND", "face(6, 0, 0)=BEYOND", "face(-1, 0, 0)=BEYOND", "face(0, 2, 0)=BEYOND",
            "face(0, -1, 0)=BEYOND", "face(0, 0, 0)=7", "face(0, 1, 1)=0");
        ROWS.run("6 show", "show(0, 5)=-1", "show(0, 0)=5", "show(0, -1)=0", "show(5, 3)=-1", "show(6, 0)=BEYOND",
            "show(-1, 0)=BEYOND", "show(0, 6)=BEYOND", "show(0, -2)=BEYOND", "room(0, 0)=-1", "room(5, 0)=3",
            "show(1, 3)=-1", "count(3)=2");
        ROWS.run("7 pace", "pace(20)=5", "pace(1)=20", "pace(0)=BEYOND", "pace(21)=BEYOND", "pace(-5)=BEYOND", "now(1)=1");
        ROWS.run("8 room", "part(0)", "part(4)", "part(1)", "change(0, 3, 2)", "change(1, 3, 2)", "change(2, 3, 5)",
            "room(2, 0)=-1", "room(2, 1)=3", "room(2, 2)=0", "room(5, 1)=4", "room(0, 1)=0", "show(2, 4)", "room(2, 0)=4",
            "room(2, 2)=19", "face(4, 0, 15)", "room(2, 2)=11", "room(2, 3)=0", "visitor()", "visitor()", "room(0, 3)=3",
            "waits(5)", "visitor()", "room(1, 3)=3", "room(0, 3)=4", "room(2, 4)=BEYOND", "room(2, -1)=BEYOND",
            "room(6, 0)=BEYOND", "room(-1, 0)=BEYOND");
    }

    private static void likes() {
        ROWS.run("9 like, all alike", Rows.join(ALL_KINDS, "like(0, 0)=8", "like(1, 0)=16", "like(2, 0)=18", "like(3, 0)=13",
            "like(4, 0)=11", "like(5, 0)=4", "like(6, 0)=4"));
        ROWS.run("9 like, none alike", Rows.join(ALL_KINDS, "face(0, 0, 255)", "like(0, 0)=0", "like(1, 0)=0", "like(2, 0)=2",
            "like(3, 0)=7", "like(4, 0)=3", "like(5, 0)=0", "like(6, 0)=3"));
        ROWS.run("9 like, look 7", Rows.join(ALL_KINDS, "face(1, 0, 127)", "face(2, 0, 128)", "like(0, 1)=1", "like(1, 1)=2",
            "like(2, 1)=4", "like(3, 1)=0", "like(4, 1)=4", "like(5, 1)=0", "like(6, 1)=3", "like(3, 2)=21",
            "like(5, 2)=3", "like(6, 2)=3", "change(3, 1, 128)", "like(3, 2)=23", "like(3, 0)=11"));
        ROWS.run("9 like, beyond", "like(0, 0)=BEYOND", "part(0)", "like(0, 5)=8", "like(0, 6)=BEYOND", "like(0, -1)=BEYOND",
            "like(1, 0)=BEYOND", "like(-1, 0)=BEYOND");
        ROWS.run("10 carries, store", Rows.join(ALL_KINDS, "carries(0, 0)=7", "carries(1, 5)=7", "carries(2, 0)=9",
            "carries(3, 0)=18", "carries(4, 0)=8", "carries(5, 0)=1", "carries(6, 0)=1", "carries(0, -1)=STATE"));
        ROWS.run("10 carries, rooms", "part(0)", "part(2)", "part(3)", "part(4)", "change(0, 3, 5)", "change(1, 3, 5)",
            "change(2, 3, 0)", "change(3, 3, 1)", "carries(0, 0)=6", "carries(0, 4)=2", "carries(0, -1)=7",
            "carries(1, 0)=8", "carries(2, 5)=16", "carries(2, 1)=8", "change(3, 2, 9)", "carries(3, 2)=2",
            "change(3, 2, 60)", "carries(3, 2)=8", "change(3, 2, 19)", "carries(3, 0)=3", "carries(3, 1)=STATE",
            "carries(0, 5)=STATE");
        ROWS.run("10 carries, beyond", "carries(0, 0)=BEYOND", "part(0)", "carries(0, 6)=BEYOND", "carries(0, -2)=BEYOND",
            "carries(-1, 0)=BEYOND", "carries(1, -1)=BEYOND", "carries(0, -1)=STATE");
    }

    private static void minutes() {
        ROWS.run("11 visitor", "visitor()=0", "waits(60)=0", "visitor()=1", "seen(1, 0)=0", "seen(0, 0)=-1", "visitor()=2",
            "visitor()=3", "visitor()=FULL", "count(2)=4");
        ROWS.run("12 seen", "part(1)", "part(1)", "change(0, 3, 0)", "change(1, 3, 1)", "pace(2)", "visitor()", "seen(0, 0)=0",
            "seen(0, 1)=0", "waits(1)", "seen(0, 1)=1", "waits(1)", "seen(0, 0)=1", "seen(0, 1)=1", "waits(1)",
            "seen(0, 1)=3", "seen(0, 2)=0", "change(0, 3, 1)", "waits(1)", "seen(0, 2)=1", "seen(0, 1)=3", "waits(7)",
            "seen(0, 0)=5", "waits(1)", "seen(0, 0)=-1", "seen(0, 2)=1", "seen(0, 3)=BEYOND", "seen(0, -1)=BEYOND",
            "seen(1, 0)=BEYOND", "seen(-1, 0)=BEYOND");
        ROWS.run("12 seen, a part that has another kind", "part(1)", "change(0, 3, 0)", "visitor()", "waits(1)",
            "change(0, 0, 4)", "seen(0, 1)=1", "waits(60)", "change(0, 3, 1)", "seen(0, 2)=0", "pace(20)", "seen(0, 0)=3");
        ROWS.run("13 move", "part(1)", "part(3)", "visitor()", "move(0, 0)=7", "of(0, 3)=0", "seen(0, 1)=0", "move(0, 3)=11",
            "move(0, -1)=18", "of(0, 3)=-1", "move(1, 2)=36", "move(1, 2)=STATE", "move(0, -1)=STATE",
            "move(0, 6)=BEYOND", "move(0, -2)=BEYOND", "move(2, 0)=BEYOND", "move(-1, 0)=BEYOND", "now(0)=36");
        ROWS.run("13 move, others are seen meanwhile, it isn't", "part(1)", "part(0)", "change(0, 3, 0)", "change(1, 3, 0)",
            "visitor()", "move(0, 5)=6", "seen(0, 1)=2", "change(1, 3, 1)", "move(0, 1)=11", "seen(0, 2)=2", "seen(0, 1)=2");
        ROWS.run("14 waits", "part(0)", "change(0, 3, 0)", "pace(1)", "visitor()", "waits(0)=BEYOND", "waits(-1)=BEYOND",
            "waits(61)=BEYOND", "waits(1)=0", "change(0, 3, 1)", "waits(60)=1", "now(0)=61", "waits(60)=1");
        List<String> late = new ArrayList<>(List.of("part(1)", "part(5)", "change(0, 3, 0)", "visitor()"));
        for (int i = 0; i < 166; i++) {
            late.add("waits(60)=0");
        }
        late.addAll(List.of("now(0)=9960", "waits(40)=STATE", "waits(0)=BEYOND", "waits(33)=0", "move(0, -1)=STATE",
            "waits(7)=STATE",
            "move(0, 6)=BEYOND", "unseen(0, 5)=STATE", "hidden(0)=STATE", "hidden(6)=BEYOND", "unseen(0, 6)=BEYOND",
            "move(0, 5)=9999", "waits(1)=STATE", "move(1, 0)=STATE", "now(0)=9999", "visitor()=1", "empty()=30",
            "change(0, 3, 1)=5"));
        ROWS.run("14 waits, 13 move: the last minute", late.toArray(new String[0]));
        ROWS.run("15 now", "part(1)", "part(4)", "part(0)", "change(0, 3, 0)", "change(1, 3, 4)", "show(0, 0)", "show(4, 1)",
            "now(0)=0", "now(1)=5", "now(2)=27", "now(3)=0", "now(4)=4", "now(5)=0", "pace(1)", "visitor()", "visitor()",
            "now(3)=3", "waits(1)", "change(0, 3, 1)", "change(2, 3, 1)", "waits(1)", "now(5)=1", "visitor()", "waits(4)",
            "now(3)=4", "now(5)=1", "now(0)=6", "now(6)=BEYOND", "now(-1)=BEYOND");
        ROWS.run("the pace of now counts, whenever one came", "pace(1)", "visitor()", "waits(6)", "seen(0, 0)=-1", "now(3)=0",
            "pace(20)", "seen(0, 0)=0", "now(3)=1", "empty()=114");
    }

    private static final String[] TWO_HEADS = {
        "part(1)", "part(0)", "part(2)", "change(0, 1, 15)", "change(2, 1, 255)", "face(0, 0, 15)", "face(1, 0, 255)",
        "show(1, 0)", "show(4, 1)"
    };

    private static void givings() {
        // Heads 0 (16 and 8) and 2 (10 and 18).
        ROWS.run("16 most, 17 given", Rows.join(TWO_HEADS, "most()=34", "given(0)=-1", "given(1)=0", "given(4)=2", "given(5)=-1",
            "given(6)=BEYOND", "given(-1)=BEYOND", "show(0, 1)", "most()=34", "given(0)=2", "given(4)=-1", "given(1)=0",
            "change(0, 3, 5)", "most()=34", "change(2, 0, 5)", "most()=16", "given(1)=0", "given(0)=-1"));
        ROWS.run("16 most, nobody", "part(1)", "most()=0", "given(0)=-1", "show(0, 0)", "most()=16", "given(0)=0");
        ROWS.run("17 given, ties", "part(1)", "part(1)", "part(1)", "show(1, 0)", "show(2, 0)", "given(1)=0", "given(2)=1",
            "given(0)=-1", "show(5, 3)", "given(5)=2", "show(3, 1)", "given(3)=2", "given(5)=-1");
        ROWS.run("17 given, a head that is worth nothing is ahead of none", "part(1)", "part(1)", "face(0, 0, 255)",
            "show(0, 0)", "show(3, 0)", "show(5, 0)", "most()=0", "given(0)=0", "given(3)=1", "given(5)=-1");
        ROWS.run("16 most, 17 given: not the likest for each, one behind the other", "part(2)", "part(1)", "face(0, 0, 0)",
            "face(1, 0, 1)", "show(0, 1)", "show(1, 0)", "change(1, 1, 3)", "like(0, 1)=16", "like(0, 0)=18", "like(1, 1)=14",
            "like(1, 0)=12", "most()=32", "given(0)=1", "given(1)=0");
        ROWS.run("18 likest", "likest(6)=BEYOND", "likest(0)=NONE", "part(5)", "part(4)", "part(0)", "likest(0)=1",
            "part(1)", "likest(0)=3", "part(1)", "likest(0)=3", "change(4, 3, 2)", "change(4, 0, 2)", "likest(5)=4",
            "likest(-1)=BEYOND", "likest(6)=BEYOND");
        ROWS.run("19 whom", "whom(0)=BEYOND", "part(1)", "whom(0)=0", "face(0, 0, 1)", "whom(0)=1", "face(3, 0, 128)",
            "change(0, 1, 128)", "whom(0)=3", "part(3)", "whom(1)=3", "part(6)", "whom(2)=1", "change(2, 1, 255)", "whom(2)=0",
            "whom(3)=BEYOND", "whom(-1)=BEYOND");
        ROWS.run("20 missed", Rows.join(TWO_HEADS, "missed(0)=16", "missed(1)=0", "missed(2)=18", "part(1)", "change(3, 1, 15)",
            "missed(0)=0", "missed(3)=0", "missed(2)=10", "missed(4)=BEYOND", "missed(-1)=BEYOND", "most()=34"));
        ROWS.run("21 recast", Rows.join(TWO_HEADS, "recast(0)=15", "change(0, 1, 200)", "recast(0)=15", "recast(2)=15", "change(0, 1, 15)", "recast(2)=255", "change(0, 1, 200)", "of(0, 1)=200",
            "recast(1)=KIND", "recast(3)=BEYOND", "recast(-1)=BEYOND", "show(1, -1)", "recast(0)=0", "show(4, -1)",
            "recast(2)=0"));
        ROWS.run("21 recast, crowned", "part(3)", "face(0, 0, 15)", "face(1, 0, 143)", "show(0, 0)", "recast(0)=15", "show(2, 1)",
            "recast(0)=143", "part(5)", "recast(1)=KIND");
        ROWS.run("22 kindFor", Rows.join(TWO_HEADS, "kindFor(0)=2", "kindFor(1)=0", "kindFor(2)=3", "face(0, 0, 0)", "kindFor(1)=2",
            "face(0, 0, 128)", "kindFor(1)=3", "show(1, -1)", "show(4, -1)", "kindFor(0)=0", "of(1, 0)=0", "kindFor(3)=BEYOND",
            "kindFor(-1)=BEYOND"));
    }

    private static void unseenMoves() {
        ROWS.run("23 unseen", "unseen(0, 0)=BEYOND", "part(1)", "unseen(0, -1)=STATE", "unseen(0, 6)=BEYOND",
            "unseen(0, -2)=BEYOND", "unseen(1, 0)=BEYOND", "unseen(-1, 0)=BEYOND", "unseen(0, 3)=0", "change(0, 3, 0)",
            "visitor()", "unseen(0, 5)=0", "waits(1)", "unseen(0, 5)=23", "unseen(0, 0)=STATE", "unseen(0, -1)=0",
            "unseen(0, 1)=7", "now(0)=1", "of(0, 3)=0");
        // He is in room 1 at minutes 5 to 9, it has been seen in 0 at minute 0: it must be there from 10 on, as it carries 2.
        ROWS.run("23 unseen, then moved so", "part(1)", "change(0, 3, 0)", "visitor()", "waits(1)", "unseen(0, 1)=7",
            "waits(7)=0", "unseen(0, 1)=0", "move(0, 1)=10", "waits(60)=0");
        ROWS.run("23 unseen, a minute sooner", "part(1)", "change(0, 3, 0)", "visitor()", "waits(1)", "waits(6)=0",
            "unseen(0, 1)=1", "move(0, 1)=9", "waits(60)=1");
        ROWS.run("23 unseen, none", "part(1)", "change(0, 3, 3)", "pace(20)", "visitor()", "waits(60)", "waits(1)=0", "seen(0, 1)=1",
            "unseen(0, 4)=37", "unseen(0, 5)=56", "change(0, 3, 2)", "visitor()", "unseen(0, 5)=NONE", "unseen(0, -1)=0",
            "unseen(0, 1)=0", "waits(60)=0", "seen(0, 2)=0", "seen(1, 1)=1");
        ROWS.run("23 unseen, those who have seen it twice don't count", "part(1)", "change(0, 3, 0)", "pace(20)", "visitor()",
            "waits(1)", "change(0, 3, 1)", "waits(20)=1", "unseen(0, 5)=0", "visitor()", "unseen(0, 5)=0", "unseen(0, 0)=0");
        ROWS.run("23 unseen, those who are gone don't count", "part(5)", "change(0, 3, 0)", "pace(1)", "visitor()", "waits(6)",
            "unseen(0, 5)=0", "visitor()", "waits(1)", "unseen(0, 5)=4");
        ROWS.run("23 unseen, 60 minutes at most", "part(5)", "change(0, 3, 0)", "pace(20)", "visitor()", "waits(18)=0",
            "unseen(0, 3)=NONE", "waits(1)", "unseen(0, 3)=60", "waits(1)", "unseen(0, 3)=59", "visitor()", "unseen(0, 3)=NONE",
            "waits(1)", "unseen(0, 3)=NONE", "unseen(0, 1)=38");
        List<String> late = new ArrayList<>(List.of("part(1)", "part(5)"));
        for (int i = 0; i < 150; i++) {
            late.add("waits(60)=0");
        }
        late.addAll(List.of("visitor()=0", "unseen(0, 2)=0", "hidden(2)=3", "now(0)=9000", "waits(1)", "unseen(0, 2)=STATE",
            "unseen(2, 2)=BEYOND", "hidden(2)=STATE", "hidden(7)=BEYOND"));
        ROWS.run("23 unseen, 24 hidden: the last minute for plans", late.toArray(new String[0]));
        ROWS.run("24 hidden", "hidden(0)=0", "part(1)", "part(5)", "part(3)", "change(0, 3, 0)", "change(1, 3, 0)", "visitor()",
            "hidden(0)=4", "waits(1)", "hidden(0)=4", "hidden(5)=4", "hidden(-1)=3", "hidden(1)=4", "waits(22)", "hidden(5)=4",
            "waits(1)", "hidden(5)=5", "waits(5)", "hidden(5)=7", "hidden(-2)=BEYOND", "hidden(6)=BEYOND");
        ROWS.run("25 empty", "empty()=0", "visitor()", "empty()=30", "pace(20)", "empty()=120", "waits(60)", "empty()=60",
            "pace(10)", "empty()=0", "visitor()", "empty()=60", "pace(1)", "empty()=6", "waits(5)", "empty()=1", "waits(1)",
            "empty()=0");
    }

    private static void papersAndMoulds() {
        ROWS.run("26 worth", "worth(0, 0)=16", "worth(0, 1)=1", "worth(255, 0)=0", "worth(255, 1)=1", "face(0, 1, 3)",
            "face(0, 0, 1)", "worth(0, 0)=61", "worth(0, 1)=4", "worth(256, 0)=BEYOND", "worth(-1, 0)=BEYOND",
            "worth(0, 2)=BEYOND", "worth(0, -1)=BEYOND", "face(1, 1, 2)", "worth(1, 0)=44", "worth(1, 1)=3");
        ROWS.run("26 worth, 27 next: no chances", "face(0, 1, 0)", "face(1, 1, 0)", "face(2, 1, 0)", "face(3, 1, 0)",
            "face(4, 1, 0)", "worth(0, 0)=16", "next()=0", "face(5, 1, 0)", "worth(0, 0)=NONE", "next()=NONE",
            "worth(256, 0)=BEYOND", "worth(0, 2)=BEYOND");
        ROWS.run("27 next", "next()=0", "face(0, 0, 255)", "next()=0", "face(0, 1, 99)", "next()=255", "face(1, 1, 99)",
            "face(1, 0, 15)", "next()=15", "face(0, 1, 94)", "next()=15", "face(1, 1, 90)", "next()=15", "face(1, 0, 0)",
            "next()=0", "face(0, 1, 95)", "next()=255");
        ROWS.run("28 mould, 29 cuts", "mould(0)=NONE", "cuts(0)=NONE", "mould(6)=BEYOND", "cuts(-1)=BEYOND", "part(0)", "part(5)",
            "change(0, 1, 1)", "mould(0)=1", "cuts(0)=0", "change(1, 1, 3)", "mould(0)=0", "cuts(0)=10", "change(1, 2, 5)",
            "mould(0)=0", "cuts(0)=10", "change(1, 2, 4)", "mould(0)=1", "cuts(0)=8", "face(3, 0, 255)", "mould(3)=1",
            "cuts(3)=24", "change(0, 2, 60)", "change(1, 2, 60)", "change(1, 1, 0)", "cuts(3)=420", "mould(-1)=BEYOND",
            "cuts(6)=BEYOND");
    }

    private static void tellings() {
        ROWS.run("30 fits, 31 maybe", "part(1)", "part(1)", "part(0)", "part(2)", "change(1, 1, 1)", "face(1, 0, 1)",
            "fits(0)=MISSING", "fits(-1)=BEYOND", "fits(4)=BEYOND", "maybe(0, 0)=MISSING", "maybe(0, 6)=MISSING",
            "maybe(4, 0)=BEYOND", "maybe(-1, 0)=BEYOND", "sheet(0, 8, 0)", "fits(0)=1", "maybe(0, 0)=BEYOND", "sheet(0, 8, 1)",
            "fits(0)=0", "maybe(0, 0)=0", "write(0, 0, 16)", "fits(0)=1", "maybe(0, 0)=1", "maybe(0, 1)=BEYOND",
            "maybe(0, -1)=BEYOND", "sheet(0, 8, 2)", "write(0, 0, 16)", "write(0, 1, 16)", "fits(0)=2", "maybe(0, 0)=1",
            "maybe(0, 1)=10", "maybe(0, 2)=BEYOND", "write(0, 1, 14)", "fits(0)=0", "maybe(0, 0)=0", "maybe(0, 1)=0",
            "write(0, 0, 14)", "fits(0)=1", "maybe(0, 0)=2", "maybe(0, 1)=1");
        ROWS.run("30 fits, all ten", "tape head;head;head;head;head;head;head;head;head;head", "text()=10", "sheet(1, 32, 7)",
            "write(1, 0, 16)", "write(1, 1, 16)", "write(1, 2, 16)", "write(1, 3, 16)", "write(1, 4, 16)", "write(1, 5, 16)",
            "fits(1)=151200", "maybe(1, 5)=1023", "maybe(1, 6)=BEYOND", "change(9, 1, 1)", "fits(1)=60480", "maybe(1, 0)=511",
            "write(1, 5, 14)", "fits(1)=15120", "maybe(1, 5)=512", "write(1, 6, -5)", "fits(1)=15120", "write(1, 4, -16)",
            "fits(1)=0");
        ROWS.run("32 stand", "stand(0, 0)=0", "stand(1, 0)=BEYOND", "part(1)", "part(0)", "part(2)", "stand(0, 0)=63",
            "stand(0, 18)=63", "stand(0, 19)=0", "stand(4, 16)=63", "stand(4, 17)=0", "stand(5, 0)=0", "stand(7, 0)=0",
            "stand(2, 18)=63", "face(2, 0, 3)", "stand(0, 15)=59", "stand(0, 14)=63", "stand(4, 13)=59", "stand(8, 0)=BEYOND",
            "stand(-1, 0)=BEYOND", "stand(0, 100)=BEYOND", "stand(0, -1)=BEYOND", "stand(0, 99)=0");
        ROWS.run("33 fire", "fire(0, 0)=0", "part(1)", "part(4)", "part(2)", "part(3)", "fire(0, 0)=13", "fire(0, 14)=5",
            "fire(0, 13)=13", "fire(0, 17)=4", "fire(0, 19)=0", "fire(0, 99)=0", "face(5, 0, 255)", "fire(5, 3)=8", "fire(5, 2)=12",
            "fire(6, 0)=BEYOND", "fire(-1, 0)=BEYOND", "fire(0, 100)=BEYOND", "fire(0, -1)=BEYOND", "count(1)=4");
    }

    private static void draws() {
        // z: 1, 1103527590, -1770082073 (told without sign 2524885223).
        ROWS.run("34 papers, 35 seed", "part(1)", "papers(0)=BEYOND", "papers(13)=BEYOND", "papers(-1)=BEYOND", "count(6)=1",
            "papers(1)=16", "count(6)=-1770082073", "count(3)=1", "room(2, 0)=2", "seed(5)=-1770082073", "seed(-2000000000)=5",
            "count(6)=-2000000000", "seed(-1000001)=-2000000000", "seed(0)=-1000001");
        ROWS.run("34 papers, by two and at once", "seed(77)", "part(1)", "part(2)", "image()", "papers(12)", "undo()=0", "papers(6)",
            "papers(6)", "count(6)=" + seedAfter(77, 24), "room(0, 0)=" + shownAfter(77, 12, 0),
            "room(1, 0)=" + shownAfter(77, 12, 1), "room(2, 0)=" + shownAfter(77, 12, 2),
            "room(3, 0)=" + shownAfter(77, 12, 3), "room(4, 0)=" + shownAfter(77, 12, 4),
            "room(5, 0)=" + shownAfter(77, 12, 5));
    }

    private static int seedAfter(int z, int draws) {
        int now = z;
        for (int i = 0; i < draws; i++) {
            now = now * 1103515245 + 12345;
        }
        return now;
    }

    private static int shownAfter(int z, int papers, int room) {
        int shown = -1;
        for (int i = 0; i < papers; i++) {
            if ((seedAfter(z, 2 * i + 1) >>> 8) % 6 == room) {
                shown = (seedAfter(z, 2 * i + 2) >>> 8) % 6;
            }
        }
        return shown;
    }

    private static void texts() {
        ROWS.run("36 feed, 37 wipe", "feed(0, 0)=BEYOND", "feed(0, 5)=BEYOND", "feed(0, -1)=BEYOND", "feed(-1, 3)=3", "count(5)=3",
            "wipe()=3", "wipe()=0", "count(5)=0", "feed(0, 1)=1", "text()=-1", "count(5)=0");
        List<String> full = new ArrayList<>();
        for (int i = 1; i < 30; i++) {
            full.add("feed(538976288, 4)=" + 4 * i);
        }
        full.addAll(List.of("feed(59, 2)=118", "feed(1, 3)=FULL", "feed(1, 5)=BEYOND", "feed(538976288, 2)=120", "feed(1, 1)=FULL",
            "wipe()=120"));
        ROWS.run("36 feed, full", full.toArray(new String[0]));
        // "pace" is 1885430629, " 7" is 8247: the lowest bytes count, the highest of them first.
        ROWS.run("36 feed, bytes", "feed(1885430629, 4)=4", "feed(305405751, 1)=5", "text()=1", "now(1)=7",
            "feed(1885430629, 4)", "feed(305419808, 1)", "feed(2147430961, 2)", "text()=-6");
        ROWS.run("38 text, parts", "tape part;head looks 7;wigged wax 60;crowned in 5;body looks 255 wax 1 in 0", "text()=5",
            "of(0, 0)=0", "of(0, 1)=0", "of(0, 2)=10", "of(0, 3)=-1", "of(1, 0)=1", "of(1, 1)=7", "of(2, 0)=2", "of(2, 2)=60",
            "of(3, 0)=3", "of(3, 3)=5", "of(4, 0)=4", "of(4, 1)=255", "of(4, 2)=1", "of(4, 3)=0", "count(5)=0",
            "tape hands;gloved;show 1 2;show 1 3;face 2 looks 9;face 3 looks 1 chance 0;pace 20", "text()=7",
            "of(5, 0)=5", "of(6, 0)=6", "room(1, 0)=3", "face(2, 0, 0)=9", "face(2, 1, 5)=1", "face(3, 0, 0)=1", "face(3, 1, 0)=0",
            "now(1)=20", "status(-1)=0");
        ROWS.run("38 text, tokens", "tape   head  looks0255wax060in05  ;pace20;  show0 0", "text()=3", "of(0, 1)=255", "of(0, 2)=60",
            "of(0, 3)=5", "tape pace 000000000000000000000000000000000000000000019 ", "text()=1", "now(1)=19",
            "tape pace 42949672990", "text()=-6", "tape pace 4294967301", "text()=-6", "tape face 1 looks 5 chance 0",
            "text()=1", "face(1, 1, 9)=0", "tape face 1 looks 6", "text()=1", "face(1, 1, 9)=9", "tape show 00", "text()=-8",
            "tape headlooks 3", "text()=-1", "tape show 1  2  ", "text()=1");
        ROWS.run("38 text, faults", "text()=-1", "tape  ", "text()=-2", "tape nose", "text()=-1", "tape ;pace 3", "text()=-1",
            "tape pace 3;;pace 3", "text()=-8", "tape pace 3; ", "text()=-9", "tape pace", "text()=-5", "tape pace  ", "text()=-7",
            "tape pace x", "text()=-6", "tape pace ;", "text()=-6", "tape pace 3 pace 4", "text()=-8", "tape pace 3#", "text()=-7",
            "tape pace 3A", "text()=-7", "tape Pace 3", "text()=-1", "tape pace -3", "text()=-6", "tape pace\t3", "text()=-5",
            "tape 7", "text()=-1", "tape in 3", "text()=-1", "tape part in", "text()=-8", "tape part in 3 wax 4", "text()=-11",
            "tape part in 3 looks 4", "text()=-11", "tape part looks 1 looks 2", "text()=-14", "tape part looks 256", "text()=-12",
            "tape part looks wax", "text()=-12", "tape part wax 0", "text()=-10", "tape part wax 61", "text()=-10",
            "tape part in 6", "text()=-9", "tape part face 0 looks 0", "text()=-6", "tape parts", "text()=-1", "tape partz", "text()=-1", "tape parta", "text()=-1",
            "tape part{", "text()=-5", "tape part`", "text()=-5", "tape part/", "text()=-5", "tape part:", "text()=-5", "tape par", "text()=-1",
            "count(1)=0", "now(1)=5", "status(-1)=0");
        ROWS.run("38 text, faults of faces and shows", "tape face 6 looks 1", "text()=-6", "tape face 0", "text()=-7",
            "tape face 0 look 1", "text()=-8", "tape face 0 chance 3", "text()=-8", "tape face 0 looks 256", "text()=-14",
            "tape face 0 looks 1 chance 100", "text()=-23", "tape face 0 looks 1 chance", "text()=-22", "tape face looks 1",
            "text()=-6", "tape face 0 looks 1 wax 3", "text()=-16", "tape show 6 0", "text()=-6", "tape show 0 6", "text()=-8",
            "tape show 0", "text()=-7", "tape show 0 0 0", "text()=-10", "tape show 1 -1", "text()=-8", "tape show", "text()=-5",
            "tape pace 0", "text()=-6", "tape pace 21", "text()=-6", "count(3)=0", "face(0, 0, 0)=0", "face(0, 1, 1)=1");
        ROWS.run("38 text, with a fault nothing is told", "tape part;face 0 looks 3 chance 4;show 0 0;pace 7;pace 0", "text()=-51",
            "count(1)=0", "face(0, 0, 0)=0", "face(0, 1, 1)=1", "room(0, 0)=-1", "now(1)=5", "count(5)=0");
        ROWS.run("38 text, a full tape", "tape " + ";".repeat(120), "count(5)=120", "text()=-1", "tape " + "a".repeat(120), "text()=-1",
            "tape pace 3" + " ".repeat(114), "text()=1", "now(1)=3", "tape pace 4;" + " ".repeat(113), "text()=-121",
            "tape pace 5" + ";pace 7".repeat(16) + " ;", "count(5)=120", "text()=-121", "tape " + "a;".repeat(60), "text()=-1",
            "tape pace " + "0".repeat(114) + "8", "text()=1", "now(1)=8", "tape pace " + "9".repeat(115), "text()=-6",
            "tape pace 5" + ";pace 7".repeat(16) + "  ", "text()=17", "now(1)=7");
        ROWS.run("38 text, an 11th part", Rows.join(TEN, "tape pace 3;head", "text()=-8", "now(1)=5", "tape pace 3;heads", "text()=-8",
            "tape pace 3;show 0 0", "text()=2", "now(1)=3", "count(1)=10"));
        ROWS.run("38 text, the 10th and the 11th part", "part(0)", "tape part;part;part;part;part;part;part;part;part;part",
            "text()=-46", "count(1)=1", "tape part;part;part;part;part;part;part;part;head looks 8", "text()=9", "of(9, 1)=8");
    }

    private static void spotsAndSheets() {
        ROWS.run("39 hold", "hold(0, 0)=BEYOND", "hold(0, -1)=1", "part(1)", "hold(0, 0)=1", "hold(9, 0)=1", "hold(10, 0)=BEYOND",
            "hold(-1, 0)=BEYOND", "hold(0, 1)=BEYOND", "hold(0, -2)=BEYOND", "count(7)=2", "hold(0, -1)=1", "count(7)=1",
            "as(0, 0)=MISSING", "as(9, 1)=0");
        ROWS.run("40 as", Rows.join(ALL_KINDS, "hold(0, 0)", "hold(1, 1)", "hold(2, 2)", "hold(3, 3)", "hold(4, 4)", "hold(5, 5)",
            "hold(6, 6)", "as(0, 0)=0", "as(0, 1)=KIND", "as(1, 0)=1", "as(1, 1)=1", "as(1, 2)=KIND", "as(2, 0)=2", "as(2, 1)=2",
            "as(2, 2)=2", "as(2, 3)=KIND", "as(3, 0)=3", "as(3, 1)=3", "as(3, 2)=3", "as(3, 3)=3", "as(3, 4)=KIND", "as(4, 0)=4",
            "as(4, 4)=4", "as(4, 1)=KIND", "as(4, 5)=KIND", "as(5, 0)=5", "as(5, 5)=5", "as(5, 6)=KIND", "as(5, 4)=KIND",
            "as(6, 0)=6", "as(6, 5)=6", "as(6, 6)=6", "as(6, 4)=KIND", "as(6, 1)=KIND", "as(7, 0)=MISSING", "as(7, 7)=BEYOND",
            "as(0, -1)=BEYOND", "as(10, 0)=BEYOND", "as(-1, 0)=BEYOND", "change(0, 0, 3)", "as(0, 2)=0"));
        ROWS.run("41 sheet", "sheet(0, 8, 40)=40", "sheet(3, 16, 0)=0", "sheet(1, 32, 1)=1", "sheet(0, 0, 40)=0", "judge(0)=MISSING",
            "sheet(4, 8, 1)=BEYOND", "sheet(-1, 8, 1)=BEYOND", "sheet(0, 7, 1)=BEYOND", "sheet(0, 64, -1)=BEYOND",
            "sheet(0, 8, -1)=SIZE", "sheet(0, 0, -1)=SIZE", "sheet(4, 0, -1)=BEYOND", "sheet(0, 8, 41)=BEYOND",
            "sheet(0, 0, 41)=BEYOND", "sheet(0, 32, -2147483648)=SIZE", "sheet(1, 8, 2)=2", "write(1, 0, 5)", "judge(1)=1",
            "sheet(1, 8, 2)=2", "judge(1)=0", "sheet(1, 0, 41)=BEYOND", "judge(1)=0", "sheet(1, 0, 2)=0", "judge(1)=MISSING");
        ROWS.run("42 write", "write(0, 0, 0)=MISSING", "write(4, 0, 0)=BEYOND", "write(-1, 0, 0)=BEYOND", "write(0, -1, 0)=MISSING",
            "part(0)", "sheet(0, 8, 1)", "write(0, 1, 0)=BEYOND", "write(0, -1, 0)=BEYOND", "write(0, 0, 255)=1", "load(0)=0",
            "write(0, 0, 261)=1", "load(0)=1", "of(0, 2)=5", "write(0, 0, -196)=1", "load(0)=1", "of(0, 2)=60", "sheet(1, 16, 1)",
            "write(1, 0, 261)=1", "load(1)=0", "write(1, 0, 65537)=1", "load(1)=1", "of(0, 2)=1", "write(1, 0, -65477)=1",
            "load(1)=1", "of(0, 2)=59", "write(1, 0, 65535)=1", "load(1)=0", "sheet(2, 32, 1)", "write(2, 0, 65537)=1", "load(2)=0",
            "write(2, 0, 60)=1", "load(2)=1", "sheet(3, 8, 0)", "write(3, 0, 0)=BEYOND");
        ROWS.run("42 write, told with their sign", "part(1)", "sheet(0, 8, 1)", "write(0, 0, 272)", "fits(0)=1", "sheet(0, 16, 1)",
            "write(0, 0, 272)", "fits(0)=0", "write(0, 0, 65552)", "fits(0)=1", "sheet(0, 32, 1)", "write(0, 0, 65552)", "fits(0)=0",
            "write(0, 0, 16)", "fits(0)=1");
        ROWS.run("43 copy", "part(0)", "part(0)", "part(0)", "part(0)", "sheet(0, 8, 4)", "sheet(1, 8, 3)", "sheet(2, 16, 4)",
            "write(0, 0, 1)", "write(0, 1, 2)", "write(0, 2, 3)", "write(0, 3, 4)", "copy(0, 1, 1, 0, 3)=3", "load(1)=3",
            "of(0, 2)=2", "of(1, 2)=3", "of(2, 2)=4", "copy(0, 0, 0, 1, 3)=3", "load(0)=4", "of(0, 2)=1", "of(1, 2)=1", "of(2, 2)=2",
            "of(3, 2)=3", "copy(0, 1, 0, 0, 3)=3", "load(0)=4", "of(0, 2)=1", "of(1, 2)=2", "of(2, 2)=3", "of(3, 2)=3",
            "copy(0, 4, 1, 3, 0)=0", "copy(0, 5, 1, 0, 0)=BEYOND", "copy(0, 0, 1, 4, 0)=BEYOND", "copy(0, 0, 1, 0, 4)=BEYOND",
            "copy(1, 0, 0, 2, 3)=BEYOND", "copy(0, -1, 1, 0, 1)=BEYOND", "copy(0, 0, 1, -1, 1)=BEYOND", "copy(0, 0, 1, 0, -1)=BEYOND",
            "copy(0, 2147483647, 1, 0, 1)=BEYOND", "copy(0, 1, 1, 1, 2147483647)=BEYOND", "copy(0, 1, 1, 2147483647, 3)=BEYOND",
            "copy(0, 0, 2, 0, 1)=KIND", "copy(0, -1, 2, 0, 1)=KIND", "copy(0, 0, 3, 0, 1)=MISSING", "copy(3, 0, 2, 0, 1)=MISSING",
            "copy(3, 0, 3, 0, -1)=MISSING", "copy(4, 0, 3, 0, 1)=BEYOND", "copy(3, 0, -1, 0, 1)=BEYOND", "load(0)=4", "of(3, 2)=3");
        ROWS.run("44 load", "load(0)=MISSING", "load(4)=BEYOND", "load(-1)=BEYOND", "sheet(0, 8, 3)", "write(0, 0, 60)", "load(0)=0",
            "part(0)", "part(0)", "load(0)=1", "of(0, 2)=60", "of(1, 2)=10", "write(0, 1, 61)", "load(0)=1", "write(0, 1, 1)",
            "write(0, 2, 7)", "load(0)=2", "of(1, 2)=1", "write(0, 0, -1)", "load(0)=0", "of(0, 2)=60", "count(4)=61", "sheet(1, 8, 0)",
            "load(1)=0");
        ROWS.run("45 judge", "judge(0)=MISSING", "judge(4)=BEYOND", "judge(-1)=BEYOND", "sheet(0, 8, 0)", "judge(0)=0", "sheet(0, 8, 6)",
            "judge(0)=0", "sheet(0, 8, 7)", "judge(0)=7", "part(1)", "change(0, 3, 2)", "show(2, 3)", "judge(0)=3", "write(0, 2, 16)",
            "judge(0)=7", "write(0, 5, 1)", "judge(0)=6", "write(0, 0, -1)", "judge(0)=1");
    }

    private static void images() {
        ROWS.run("46 image, 47 undo, 48 tear", "part(1)", "change(0, 3, 0)", "hold(4, 0)", "face(2, 0, 9)", "face(2, 1, 8)", "show(1, 2)",
            "pace(7)", "seed(33)", "visitor()", "waits(3)", "sheet(0, 8, 1)", "tape abc", "undo()=NONE", "image()=1", "change(0, 0, 4)",
            "change(0, 1, 3)", "change(0, 2, 5)", "change(0, 3, 1)", "hold(4, -1)", "hold(5, 0)", "face(2, 0, 1)", "face(2, 1, 1)",
            "show(1, 5)", "show(0, 5)", "pace(1)", "seed(4)", "visitor()", "part(2)", "waits(9)", "sheet(0, 8, 2)", "sheet(1, 8, 1)",
            "feed(59, 1)=4", "part(9)=BEYOND", "undo()=3", "of(0, 0)=1", "of(0, 1)=0", "of(0, 2)=10", "of(0, 3)=0", "as(4, 1)=0",
            "as(5, 1)=MISSING", "face(2, 0, 9)=9", "face(2, 1, 8)=8", "room(1, 0)=2", "room(0, 0)=-1", "now(1)=7", "seed(33)=33",
            "count(2)=1", "count(1)=1", "seen(0, 1)=1", "seen(0, 2)=0", "sheet(2, 0, 0)=0", "write(0, 1, 1)=1", "write(1, 0, 1)=1",
            "count(5)=4", "waits(2)", "undo()=3", "image()=1", "waits(1)", "image()=1", "waits(1)", "undo()=4", "tear()=1",
            "tear()=0", "undo()=NONE", "now(0)=4");
        ROWS.run("47 undo, what comes behind it doesn't touch what is kept", "part(1)", "image()", "change(0, 1, 7)", "undo()",
            "change(0, 1, 9)", "undo()=0", "of(0, 1)=0", "tear()=1", "image()=1", "tear()=1");
        ROWS.run("47 undo, sights", "part(1)", "change(0, 3, 0)", "visitor()", "image()", "waits(1)", "seen(0, 1)=1", "undo()=0",
            "seen(0, 1)=0", "image()", "waits(1)", "image()", "undo()=1", "seen(0, 1)=1");
        ROWS.run("49 count", "part(0)", "part(0)", "change(0, 2, 60)", "visitor()", "show(0, 1)", "show(3, 1)", "waits(9)", "feed(0, 3)",
            "hold(0, 1)", "hold(3, 1)", "hold(4, 0)", "count(0)=9", "count(1)=2", "count(2)=1", "count(3)=2", "count(4)=70", "count(5)=3",
            "count(6)=1", "count(7)=3", "count(8)=BEYOND", "count(-1)=BEYOND", "waits(60)", "count(2)=1");
        ROWS.run("50 status", "status(-1)=0", "status(0)=0", "status(6)=0", "status(7)=BEYOND", "status(-2)=BEYOND", "status(0)=2",
            "part(7)=BEYOND", "image()", "undo()", "tear()", "undo()=NONE", "sheet(0, 8, -1)=SIZE", "part(0)", "carries(0, -1)=STATE",
            "recast(0)=KIND", "undo()=NONE", "tear()", "status(-1)=8");
    }

    private static void fullCounts() {
        SameHeads x = new SameHeads();
        x.part(9);
        x.part(9);
        x.sheet(0, 8, -1);
        x.undo();
        x.judge(0);
        x.image();
        x.part(0);
        x.carries(0, -1);
        x.recast(0);
        for (int i = 0; i < 10; i++) {
            x.part(0);
        }
        x.undo();
        int[] due = {8, 2, 1, 1, 1, 1, 1, 1};
        for (int which = -1; which < 7; which++) {
            if (x.status(which) != due[which + 1]) {
                ROWS.complain("50 status", "status(" + which + ") answered " + x.status(which) + ", due is " + due[which + 1]);
            }
        }
    }

    public static void main(String[] args) {
        newObject();
        parts();
        likes();
        minutes();
        givings();
        unseenMoves();
        papersAndMoulds();
        tellings();
        draws();
        texts();
        spotsAndSheets();
        images();
        fullCounts();
        ROWS.end();
    }
}
