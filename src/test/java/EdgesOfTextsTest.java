/** Each sentence about TEXTS that names a boundary (point 3 of the terms, promise 38), in a run of its own. */
public final class EdgesOfTextsTest {
    private static final Rows ROWS = new Rows();
    private static final String[] KINDS = {"part", "head", "wigged", "crowned", "body", "hands", "gloved"};
    private static final String[] TEN = Rows.times(10, "part(1)");
    private static final String[] NINE = Rows.times(9, "part(1)");
    private static final int MOST_BYTES = 120;

    private static void reads(String name, String text, int items, String... then) {
        String[] rows = {"tape " + text, "count(5)=" + text.length(), "text()=" + items, "count(5)=0"};
        ROWS.run("Promise 38: " + name + ": '" + text + "'", Rows.join(rows, then));
    }

    private static void fault(String name, String text, int place) {
        ROWS.run("Promise 38: FAULT: " + name + ": '" + text + "'", "part(4)", "tape " + text, "text()=" + (-1 - place), "count(5)=0", "count(1)=1",
            "now(1)=5", "count(3)=0", "text()=-1");
    }

    private static void endsTooEarly(String text) {
        fault("it ends too early: how many bytes there are", text, text.length());
        fault("it ends too early, blanks count", text + "  ", text.length() + 2);
    }

    /** A NUMBER in the place of the question mark; what is asked then tells it. */
    private static void number(String template, String asked, int least, int most) {
        int place = template.indexOf('?');
        for (int v : new int[] {least, most}) {
            reads("a NUMBER of " + least + " to " + most, template.replace("?", "" + v), 1, asked + "=" + v);
        }
        for (int v : new int[] {least - 1, most + 1, 999, 1000, 2147483647}) {
            if (v >= 0) {
                fault("a NUMBER that isn't of " + least + " to " + most, template.replace("?", "" + v), place);
            }
        }
        // 4294967296 more than the least would be the least again, if it went over an int's end.
        fault("a NUMBER that goes over an int's end", template.replace("?", "" + (4294967296L + least)), place);
        reads("a NUMBER by its worth, however many digits", template.replace("?", "0000" + most), 1, asked + "=" + most);
        fault("a byte that begins no TOKEN for a NUMBER", template.replace("?", "-1"), place);
        fault("a WORD for a NUMBER", template.replace("?", "one"), place);
        fault("a SIGN for a NUMBER", template.replace("?", ";"), place);
        endsTooEarly(template.substring(0, place));
        endsTooEarly(template.substring(0, place).trim());
    }

    private static void numbers() {
        number("part looks ?", "of(0, 1)", 0, 255);
        number("part wax ?", "of(0, 2)", 1, 60);
        number("part in ?", "of(0, 3)", 0, 5);
        number("gloved looks 7 wax ?", "of(0, 2)", 1, 60);
        number("gloved looks 7 in ?", "of(0, 3)", 0, 5);
        number("gloved wax 7 in ?", "of(0, 3)", 0, 5);
        number("gloved looks 7 wax 8 in ?", "of(0, 3)", 0, 5);
        number("face 3 looks ?", "face(3, 0, 0)", 0, 255);
        number("face 3 looks 4 chance ?", "face(3, 1, 0)", 0, 99);
        number("show 2 ?", "room(2, 0)", 0, 5);
        number("pace ?", "now(1)", 1, 20);
        numbersThatChoose();
    }

    private static void numbersThatChoose() {
        for (int v = 0; v < 6; v++) {
            reads("face, a NUMBER of 0 to 5", "face " + v + " looks 9 chance 8", 1, "face(" + v + ", 0, 0)=9", "face(" + v + ", 1, 0)=8");
            reads("show, a NUMBER of 0 to 5", "show " + v + " 3", 1, "room(" + v + ", 0)=3", "count(3)=1");
        }
        fault("face, a NUMBER that isn't of 0 to 5", "face 6 looks 9", 5);
        fault("face, a NUMBER that isn't of 0 to 5", "face 1000 looks 9", 5);
        fault("face, a NUMBER that goes over an int's end", "face 4294967296 looks 9", 5);
        fault("face, a byte that begins no TOKEN", "face -1 looks 9", 5);
        fault("face, a WORD for the NUMBER", "face looks 9", 5);
        endsTooEarly("face");
        fault("show, a NUMBER that isn't of 0 to 5", "show 6 0", 5);
        fault("show, a NUMBER that isn't of 0 to 5", "show 1000 0", 5);
        fault("show, a NUMBER that goes over an int's end", "show 4294967296 0", 5);
        fault("show, nobody can't be told", "show 0 -1", 7);
        fault("show, a WORD for the NUMBER", "show face 0", 5);
        endsTooEarly("show");
        endsTooEarly("show 0");
    }

    private static void tokens() {
        reads("a NUMBER is as long as can be", "show 01 2", 1, "room(1, 0)=2");
        fault("a NUMBER is as long as can be, one TOKEN, not 0 and 1", "show 01", 7);
        fault("a NUMBER is as long as can be, one TOKEN, not 2 and 0", "show 20", 5);
        fault("a NUMBER is as long as can be, one TOKEN, not 255 and 1", "part looks 2551", 11);
        fault("a NUMBER is as long as can be, one TOKEN, not 100 and 0", "part looks 1000", 11);
        fault("a WORD is as long as can be, one TOKEN, not head and looks", "headlooks 3", 0);
        fault("a WORD is as long as can be, one TOKEN, not pace and x", "pace 3;pacex 3", 7);
        reads("a WORD ends at a digit, a NUMBER at a letter, both at a SIGN", "part looks1wax2in3;pace4", 2, "of(0, 1)=1", "of(0, 2)=2", "of(0, 3)=3", "now(1)=4");
        fault("blanks part a WORD in two", "pa ce 3", 0);
        fault("blanks part a NUMBER in two", "pace 1 9", 7);
        reads("blanks may stand between, ahead and behind", "   pace   3   ;   show   1   2   ", 2, "now(1)=3", "room(1, 0)=2");
        reads("blanks needn't stand", "pace3;face1looks2chance3;part", 3, "now(1)=3", "face(1, 0, 0)=2", "face(1, 1, 0)=3", "count(1)=1");
        for (int b = 0; b < 256; b++) {
            char sign = (char) b;
            boolean letter = sign >= 'a' && sign <= 'z';
            boolean digit = sign >= '0' && sign <= '9';
            int ahead = sign == ' ' ? 1 : -1;
            ROWS.run("Promise 38: byte " + b + " ahead of all", "tape " + sign + "pace 3", "text()=" + ahead);
            int between = sign == ' ' || sign == '0' || sign == '1' ? 1 : letter ? -1 : -5;
            ROWS.run("Promise 38: byte " + b + " between a WORD and a NUMBER", "tape pace" + sign + "3", "text()=" + between);
            int behind = sign == ' ' ? 1 : digit ? -6 : sign == ';' ? -8 : -7;
            ROWS.run("Promise 38: byte " + b + " behind all", "tape pace 3" + sign, "text()=" + behind, "now(1)=" + (behind == 1 ? 3 : 5));
        }
    }

    private static void items() {
        fault("it ends too early: nothing is there", "", 0);
        endsTooEarly(" ");
        endsTooEarly("pace 3;");
        endsTooEarly("pace 3 ;");
        endsTooEarly("pace 3;part;");
        fault("a SIGN ahead of all", ";pace 3", 0);
        fault("a SIGN ahead of all, blanks count", "  ;pace 3", 2);
        fault("two SIGNS", "pace 3;;pace 4", 7);
        fault("no SIGN between two ITEMS", "pace 3 pace 4", 7);
        fault("no SIGN between two ITEMS", "part part", 5);
        fault("no SIGN between two ITEMS", "face 0 looks 1 face 1 looks 2", 15);
        fault("no SIGN between two ITEMS", "show 0 1 show 1 2", 9);
        fault("a NUMBER for an ITEM", "7", 0);
        fault("a NUMBER for an ITEM", "pace 3;7", 7);
        fault("a third NUMBER of show", "show 0 1 2", 9);
        fault("a second NUMBER of pace", "pace 3 4", 7);
        reads("how many ITEMS, one", "pace 3", 1, "now(1)=3");
        reads("how many ITEMS, of all sorts", "head;face 0 looks 1;show 0 0;pace 2", 4, "count(1)=1", "face(0, 0, 0)=1", "room(0, 0)=0", "now(1)=2");
        reads("item by item: the last one that tells a thing counts", "pace 3;pace 4;show 0 1;show 0 2;face 0 looks 1 chance 2;face 0 looks 3", 6, "now(1)=4",
            "room(0, 0)=2", "face(0, 0, 0)=3", "face(0, 1, 0)=2");
        reads("item by item: PARTS get numbers in their order", "body;head;gloved", 3, "of(0, 0)=4", "of(1, 0)=1", "of(2, 0)=6");
    }

    private static void partItems() {
        for (int kind = 0; kind < KINDS.length; kind++) {
            String word = KINDS[kind];
            reads("a new PART, all else as at first", word, 1, "of(0, 0)=" + kind, "of(0, 1)=0", "of(0, 2)=10", "of(0, 3)=-1", "count(1)=1");
            reads("a new PART, all told", word + " looks 1 wax 2 in 3", 1, "of(0, 0)=" + kind, "of(0, 1)=1", "of(0, 2)=2", "of(0, 3)=3");
            reads("a new PART, looks alone", word + " looks 255", 1, "of(0, 1)=255", "of(0, 2)=10", "of(0, 3)=-1");
            reads("a new PART, wax alone", word + " wax 60", 1, "of(0, 1)=0", "of(0, 2)=60", "of(0, 3)=-1");
            reads("a new PART, in alone", word + " in 0", 1, "of(0, 1)=0", "of(0, 2)=10", "of(0, 3)=0");
            ROWS.run("Promise 38: FAULT: the WORD of an 11th PART: its own: " + word, Rows.join(TEN, "tape pace 3;" + word + " looks 999", "text()=-8", "now(1)=5", "count(1)=10"));
            ROWS.run("Promise 38: a 10th PART may come, an 11th not: " + word, Rows.join(NINE, "tape " + word + ";" + word, "text()=" + (-2 - word.length()), "count(1)=9",
                "tape " + word, "text()=1", "count(1)=10", "of(9, 0)=" + kind, "of(9, 1)=0", "of(9, 2)=10", "of(9, 3)=-1"));
        }
        fault("wax ahead of looks", "part wax 3 looks 4", 11);
        fault("in ahead of looks", "part in 3 looks 4", 10);
        fault("in ahead of wax", "part in 3 wax 4", 10);
        fault("looks twice", "part looks 1 looks 2", 13);
        fault("wax twice", "part wax 1 wax 2", 11);
        fault("in twice", "part in 1 in 2", 10);
        fault("chance of a PART", "part chance 3", 5);
        fault("a NUMBER behind a PART's WORD", "part 3", 5);
        fault("in the STORE can't be told", "part in -1", 8);
    }

    private static void fullHouse() {
        reads("ten PARTS at once", "part;part;part;part;part;part;part;part;part;head", 10, "count(1)=10", "of(9, 0)=1");
        ROWS.run("Promise 38: FAULT: the WORD of an 11th PART, eleven at once", "tape part;part;part;part;part;part;part;part;part;part;part", "text()=-51", "count(1)=0");
        ROWS.run("Promise 38: ten PARTS are there: other ITEMS may come", Rows.join(TEN, "tape pace 3;show 0 1;face 0 looks 2", "text()=3", "now(1)=3", "count(1)=10"));
        ROWS.run("Promise 38: FAULT: the first counts, ahead of the WORD of an 11th PART", Rows.join(TEN, "tape pace 0;part", "text()=-6", "tape part;pace 0", "text()=-1"));
        ROWS.run("Promise 38: FAULT: another WORD, ten PARTS are there", Rows.join(TEN, "tape parts", "text()=-1", "tape pace 3;heads", "text()=-8"));
    }

    private static void words() {
        String[] first = {"part", "head", "wigged", "crowned", "body", "hands", "gloved", "face", "show", "pace"};
        for (String word : first) {
            String behind = word.equals("face") ? " 0 looks 1" : word.equals("show") ? " 0 1" : word.equals("pace") ? " 3" : "";
            reads("a WORD of an ITEM", word + behind, 1);
            otherWords("pace 3;", word, behind);
        }
        otherWords("part ", "looks", " 3");
        otherWords("part ", "wax", " 3");
        otherWords("part ", "in", " 3");
        otherWords("part looks 1 ", "wax", " 3");
        otherWords("part looks 1 wax 2 ", "in", " 3");
        otherWords("face 0 ", "looks", " 3");
        otherWords("face 0 looks 1 ", "chance", " 3");
        for (String word : new String[] {"looks 3", "wax 3", "in 3", "chance 3", "store", "nose"}) {
            fault("another WORD for an ITEM", word, 0);
            fault("another WORD behind pace", "pace 3 " + word, 7);
            fault("another WORD behind show", "show 0 1 " + word, 9);
        }
        fault("face without looks", "face 0 chance 3", 7);
        fault("face without looks", "face 0 wax 3", 7);
        fault("face without looks", "face 0;pace 3", 6);
        fault("face without looks", "face 0 1", 7);
        fault("wax of a FACE", "face 0 looks 1 wax 3", 15);
        fault("chance twice", "face 0 looks 1 chance 3 chance 4", 24);
        fault("looks twice", "face 0 looks 1 looks 3", 15);
        endsTooEarly("face 0");
    }

    /** A letter more, one less, one that is another, a great one. */
    private static void otherWords(String ahead, String word, String behind) {
        String less = word.substring(0, word.length() - 1);
        String[] others = {word + "s", "s" + word, less, word.substring(1), less + "z", "z" + word.substring(1)};
        for (String other : others) {
            fault("another WORD", ahead + other + behind, ahead.length());
        }
        fault("a great letter begins no TOKEN", ahead + word.substring(0, 1).toUpperCase() + word.substring(1) + behind, ahead.length());
        fault("a WORD with a great letter ends ahead of it", ahead + less + "S" + behind, ahead.length());
    }

    private static void wholeTape() {
        reads("120 bytes, the last one a digit", "pace 4;".repeat(16) + "pace   7", 17, "now(1)=7");
        reads("119 bytes, as many ITEMS as can be", "pace4;".repeat(19) + "pace8", 20, "now(1)=8");
        reads("120 bytes, one NUMBER", "pace " + "0".repeat(MOST_BYTES - 6) + "9", 1, "now(1)=9");
        fault("120 bytes, one NUMBER", "pace " + "9".repeat(MOST_BYTES - 5), 5);
        fault("120 bytes, one WORD", "a".repeat(MOST_BYTES), 0);
        fault("120 bytes, all SIGNS", ";".repeat(MOST_BYTES), 0);
        fault("120 bytes, all blanks", " ".repeat(MOST_BYTES), MOST_BYTES);
        fault("120 bytes, it ends too early", "pace4;".repeat(20), MOST_BYTES);
        fault("120 bytes, the last one can't stand there", " ".repeat(MOST_BYTES - 7) + "pace 3#", MOST_BYTES - 1);
        reads("120 bytes, blanks ahead of all", " ".repeat(MOST_BYTES - 6) + "pace 3", 1, "now(1)=3");
    }

    private static void nothingChanges() {
        String[] all = {
            "part(1)", "change(0, 3, 0)", "part(6)", "face(0, 0, 9)", "face(0, 1, 8)", "show(0, 0)", "show(1, 4)", "visitor()", "waits(2)", "hold(3, 1)", "seed(7)",
            "sheet(0, 8, 3)", "write(0, 0, 5)", "image()", "change(0, 1, 6)", "pace(9)", "visitor()"
        };
        String told = "head looks 3 wax 4 in 5;face 0 looks 3 chance 4;show 0 5;pace 6";
        String every = "tape " + told;
        ROWS.run("Promise 38: with a FAULT nothing changes but that THE TAPE is empty, the FAULT at the end", Rows.join(all, every + ";", "text()=" + (-2 - told.length()), "count(5)=0", "count(1)=2",
            "face(0, 0, 9)=9", "face(0, 1, 8)=8", "room(0, 0)=0", "now(1)=9", "undo()=2", "now(1)=5"));
        ROWS.run("Promise 38: with a FAULT nothing changes, the FAULT behind four ITEMS", Rows.join(all, every + " x", "text()=" + (-2 - told.length()), "count(1)=2", "now(1)=9"));
        ROWS.run("Promise 38: without a FAULT all is so, the rest stays", Rows.join(all, every, "text()=4", "count(1)=3", "of(2, 0)=1", "of(2, 1)=3", "of(2, 2)=4", "of(2, 3)=5",
            "face(0, 0, 3)=3", "face(0, 1, 4)=4", "room(0, 0)=5", "room(1, 0)=4", "now(1)=6", "of(0, 1)=6", "seen(0, 1)=1", "seen(1, 1)=0", "count(0)=2", "as(3, 6)=1",
            "seed(7)=7", "load(0)=1", "undo()=2", "count(1)=2", "now(1)=5"));
        ROWS.run("Promise 38: a FAULT is no finding", "tape nose", "text()=-1", "status(-1)=0", "text()=-1", "status(-1)=0");
        ROWS.run("Promise 38: what a text with a FAULT told doesn't come with the next", "tape part;show 0 0;pace 0", "text()=-20", "tape pace 3", "text()=1", "count(1)=0", "count(3)=0");
        ROWS.run("Promise 38: a FACE whose chance isn't told keeps it", "face(2, 1, 50)", "tape face 2 looks 5", "text()=1", "face(2, 1, 0)=50", "face(2, 0, 0)=5");
        ROWS.run("Promise 38: no MINUTE goes, nobody SEES", "visitor()", "tape part in 0", "text()=1", "now(0)=0", "seen(0, 1)=0", "waits(1)", "seen(0, 1)=1");
        ROWS.run("Promise 38: a PART that a text tells was SEEN by nobody", "part(0)", "change(0, 3, 0)", "visitor()", "image()", "part(0)", "change(1, 3, 0)", "waits(1)", "seen(0, 1)=3",
            "undo()=0", "tape head in 1", "text()=1", "seen(0, 1)=0");
    }

    public static void main(String[] args) {
        numbers();
        tokens();
        items();
        partItems();
        fullHouse();
        words();
        wholeTape();
        nothingChanges();
        ROWS.end();
    }
}
