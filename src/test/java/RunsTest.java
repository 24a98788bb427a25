import java.util.ArrayList;
import java.util.Arrays;
import java.util.List;
import java.util.Map;
import java.util.Random;
import java.util.TreeMap;

/** Long runs of calls, 512 on each object, on the class and on the model: every answer must be the same. */
public final class RunsTest {
    private static final int RUNS = 600;
    private static final int LENGTH = 512;
    private static final Calls REAL = new Calls(SameHeads.class);
    private static final Calls MODEL = new Calls(Model.class);

    /** Each call with what its arguments are, and how often it comes. */
    private static final String[] SHAPES = {
        "part kind 4", "of part what3 5", "change part what3 v 24", "face face what1 v 16", "show room facen 14",
        "pace pace 3", "room room what3 8", "like part face 6", "carries part place 6", "visitor 4",
        "seen visitor what2 8", "move part place 10", "waits wait 10", "now what5 8", "most 4", "given room 6",
        "likest face 4", "whom part 4", "missed part 4", "recast part 1", "kindFor part 3", "unseen part place 10",
        "hidden place 6", "empty 4", "worth looks what1 6", "next 3", "mould face 4", "cuts face 4", "fits sheet 6",
        "maybe sheet face 6", "stand set like 6", "fire face like 3", "papers paper 4", "seed any 2",
        "feed any bytes 2", "wipe 1", "TEXT 2", "hold spot partn 5", "as spot kind 6", "sheet sheet bits size 7",
        "write sheet index number 14", "copy sheet index sheet index short 5", "load sheet 4", "judge sheet 4",
        "image 2", "undo 2", "tear 1", "count what7 8", "status which 6"
    };
    private static final int[] ODD = {Integer.MIN_VALUE, Integer.MAX_VALUE, -2, -1, 6, 7, 10, 40, 41, 100, 256, -1000001};

    private final Random random;
    private final SameHeads real = new SameHeads();
    private final Model model = new Model();
    private final List<String> made = new ArrayList<>();
    private final Map<String, Integer> findings;
    private final boolean hurries;
    private boolean wrong;

    private RunsTest(int seed, Map<String, Integer> findings) {
        this.random = new Random(seed);
        this.findings = findings;
        this.hurries = seed % 5 == 0;
    }

    private int upTo(int n) {
        return n <= 0 ? 0 : random.nextInt(n);
    }

    private int looks() {
        // Few looks, so that there are ties.
        int[] few = {0, 1, 15, 128, 129, 143, 240, 255};
        return random.nextInt(3) > 0 ? few[upTo(few.length)] : upTo(256);
    }

    private int argument(String sort, int[] before) {
        if (random.nextInt(60) == 0) {
            return random.nextBoolean() ? ODD[upTo(ODD.length)] : random.nextInt();
        }
        int parts = MODEL.make(model, "count", 1);
        switch (sort) {
            case "kind": return random.nextInt(3) > 0 ? 1 + upTo(3) : upTo(7);
            case "part": return random.nextInt(25) == 0 ? parts : upTo(parts);
            case "partn": return upTo(parts + 1) - 1;
            case "face": case "room": return upTo(6);
            case "facen": case "place": return upTo(7) - 1;
            case "pace": return 1 + upTo(20);
            case "visitor": return upTo(MODEL.make(model, "count", 2));
            case "wait": return hurries ? 60 - upTo(3) : 1 + upTo(8);
            case "what1": return upTo(2);
            case "what2": return upTo(3);
            case "what3": return upTo(4);
            case "what5": return upTo(6);
            case "what7": return upTo(8);
            case "which": return upTo(8) - 1;
            case "looks": return looks();
            case "like": return upTo(26);
            case "set": return upTo(1 << parts);
            case "paper": return 1 + upTo(12);
            case "bytes": return 1 + upTo(4);
            case "spot": return upTo(10);
            case "sheet": return upTo(4);
            case "bits": return new int[] {0, 8, 8, 8, 16, 32}[upTo(6)];
            case "size": return random.nextInt(4) == 0 ? upTo(41) : upTo(8);
            case "index": return upTo(8);
            case "short": return upTo(6);
            case "number": return number(before[before.length - 1]);
            case "v": return random.nextInt(4) == 0 ? upTo(7) - 1 : random.nextInt(3) == 0 ? upTo(61) : looks();
            default: return random.nextInt();
        }
    }

    /** Often one that fits(), judge() or load() look for. */
    private int number(int index) {
        int parts = MODEL.make(model, "count", 1);
        if (index < 0 || index > 5 || parts == 0 || random.nextInt(5) == 0) {
            return random.nextInt(1000) - 300;
        }
        return random.nextInt(3) == 0 ? MODEL.make(model, "room", index, 2) : MODEL.make(model, "like", upTo(parts), index);
    }

    private String digits(int most) {
        int v = random.nextInt(30) == 0 ? most + 1 : upTo(most + 1);
        return (random.nextInt(10) == 0 ? "00" : "") + v;
    }

    private String gap() {
        return random.nextInt(6) == 0 ? "  " : " ";
    }

    private String item() {
        switch (random.nextInt(5)) {
            case 0:
                return "face" + gap() + digits(5) + gap() + "looks" + gap() + digits(255)
                    + (random.nextBoolean() ? gap() + "chance" + digits(99) : "");
            case 1:
                return "show " + digits(5) + gap() + digits(5);
            case 2:
                return "pace " + digits(20);
            default:
                return Model.NAMES[upTo(7)] + (random.nextBoolean() ? " looks" + gap() + digits(255) : "")
                    + (random.nextBoolean() ? " wax " + digits(60) : "")
                    + (random.nextBoolean() ? gap() + "in " + digits(5) : "");
        }
    }

    private void tellText() {
        StringBuilder text = new StringBuilder(item());
        for (int n = upTo(5); n > 0; n--) {
            text.append(random.nextInt(20) == 0 ? "" : ";").append(random.nextInt(6) == 0 ? " " : "").append(item());
        }
        if (random.nextInt(4) == 0) {
            text.setCharAt(upTo(text.length()), (char) upTo(256));
        }
        if (random.nextInt(6) == 0) {
            text.setLength(upTo(text.length()));
        }
        make("wipe");
        for (int i = 0; i < text.length(); ) {
            int n = Math.min(random.nextInt(8) == 0 ? 1 + upTo(4) : 4, text.length() - i);
            int v = random.nextInt();
            for (int k = 0; k < n; k++) {
                v = v << 8 | text.charAt(i + k);
            }
            make("feed", v, n);
            i += n;
        }
        make("text");
    }

    private void make(String name, int... args) {
        if (wrong || made.size() >= LENGTH) {
            return;
        }
        int want = MODEL.make(model, name, args);
        int got = REAL.make(real, name, args);
        made.add(name + Arrays.toString(args) + " = " + got);
        if (got != want) {
            wrong = true;
            System.out.println("after " + made + " due is " + want);
        }
        if (want <= Calls.LOW && want > Calls.LOW - 7) {
            findings.merge(name + " " + Calls.FINDINGS[Calls.LOW - want], 1, Integer::sum);
        } else {
            findings.merge(want > 0 && name.equals("fits") ? "fits above 0" : name, 1, Integer::sum);
        }
    }

    private void makeOne(String shape) {
        String[] words = shape.split(" ");
        int[] args = new int[0];
        for (int i = 1; i < words.length - 1; i++) {
            int next = argument(words[i], args);
            args = Arrays.copyOf(args, i);
            args[i - 1] = next;
        }
        if (words[0].equals("TEXT")) {
            tellText();
        } else {
            make(words[0], args);
        }
    }

    private void begin() {
        for (int n = upTo(12); n > 0; n--) {
            makeOne("part kind 1");
        }
        for (int n = upTo(40); n > 0; n--) {
            makeOne(SHAPES[2 + upTo(3)]);
        }
        for (int s = 0; s < 4; s++) {
            makeOne("sheet sheet bits size 1");
        }
    }

    private boolean run() {
        int all = 0;
        for (String shape : SHAPES) {
            all += Integer.parseInt(shape.substring(shape.lastIndexOf(' ') + 1));
        }
        begin();
        while (!wrong && made.size() < LENGTH) {
            int pick = upTo(all);
            for (String shape : SHAPES) {
                pick -= Integer.parseInt(shape.substring(shape.lastIndexOf(' ') + 1));
                if (pick < 0) {
                    makeOne(shape);
                    break;
                }
            }
            if (hurries && random.nextInt(3) > 0) {
                makeOne("waits wait 1");
            }
        }
        return !wrong;
    }

    public static void main(String[] args) {
        Map<String, Integer> findings = new TreeMap<>();
        int bad = 0;
        for (int seed = 0; seed < RUNS && bad < 5; seed++) {
            bad += new RunsTest(seed, findings).run() ? 0 : 1;
        }
        if (args.length > 0) {
            System.out.println(findings);
        }
        System.out.println(bad == 0 ? "all runs are as the model says" : bad + " runs are not as the model says");
        if (bad != 0) {
            System.exit(1);
        }
    }
}
