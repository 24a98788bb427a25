import java.util.ArrayList;
import java.util.Arrays;
import java.util.List;
import java.util.TreeSet;
import java.util.regex.Matcher;
import java.util.regex.Pattern;

/**
 * Runs of rows, each on a new object. A row is a call and the answer that is due, "tape" with a text, or a call
 * alone (which then answers no finding). Where a finding is due, all that can be asked must be as it was ahead of
 * that call; where a FAULT is due, as if the tape had just been wiped; and at the end status() must tell just those
 * findings that were due.
 */
final class Rows {
    private static final Calls CALLS = new Calls(SameHeads.class);
    /** What an object answers behind so many calls is free. */
    private static final int LONGEST = 512;
    private static final Pattern PROMISES = Pattern.compile("^Promises? (\\d+)|\\G, (\\d+)");

    private final TreeSet<Integer> promises = new TreeSet<>();
    private int wrong = 0;
    private int rows = 0;
    private int runs = 0;

    /** An object that is told each call, and that no run may use too long. */
    private static final class Used {
        final SameHeads x = new SameHeads();
        int calls = 0;

        int make(String call) {
            calls++;
            return CALLS.make(x, call);
        }

        int ask(String name, int... args) {
            calls++;
            return CALLS.make(x, name, args);
        }

        /** What a row answers; a tape answers 0. */
        int makeRow(String row) {
            if (!row.startsWith("tape ")) {
                return make(callOf(row));
            }
            String text = row.substring(5);
            calls += (text.length() + 3) / 4;
            CALLS.tape(x, text);
            return 0;
        }
    }

    private static String callOf(String row) {
        return row.contains("=") ? row.substring(0, row.indexOf('=')).trim() : row;
    }

    private static String dueOf(String row) {
        return row.startsWith("tape ") || !row.contains("=") ? "" : row.substring(row.indexOf('=') + 1).trim();
    }

    private static boolean tellsSeed(String call) {
        return call.startsWith("seed(") || call.equals("count(6)");
    }

    private static boolean isFindingNumber(int answer) {
        return answer <= Calls.LOW && answer > Calls.LOW - Calls.FINDINGS.length;
    }

    void complain(String where, String what) {
        wrong++;
        System.out.println(where + ": " + what);
    }

    /** A call with each v in the place of its question mark: BEYOND outside of least to most, not so at both. */
    void range(String name, String[] setUp, String call, int least, int most) {
        for (int v : new int[] {least, most}) {
            Used used = new Used();
            for (String row : setUp) {
                used.makeRow(row);
            }
            String made = call.replace("?", "" + v);
            if (used.make(made) == Calls.LOW) {
                complain(name, made + " answered BEYOND");
            }
        }
        int[] outside = {least - 1, most + 1, Integer.MIN_VALUE, Integer.MAX_VALUE};
        List<String> refused = new ArrayList<>(Arrays.asList(setUp));
        for (int v : outside) {
            refused.add(call.replace("?", "" + v) + "=BEYOND");
        }
        run(name + ": " + call + " of " + least + " to " + most, refused.toArray(new String[0]));
    }

    /** Calls that only ask: behind each one all is as it was, and none answers a finding. */
    void asking(String name, String[] setUp, String... calls) {
        run(name, join(setUp, calls));
        for (String call : calls) {
            compareTwins(name, join(setUp, call));
        }
    }

    void run(String name, String... rowsOfRun) {
        Matcher m = PROMISES.matcher(name);
        while (m.find()) {
            promises.add(Integer.valueOf(m.group(1) != null ? m.group(1) : m.group(2)));
        }
        runs++;
        Used used = new Used();
        int[] tally = new int[Calls.FINDINGS.length];
        for (int i = 0; i < rowsOfRun.length; i++) {
            String where = name + ", row " + i;
            String due = dueOf(rowsOfRun[i]);
            int got = used.makeRow(rowsOfRun[i]);
            rows++;
            if (due.isEmpty() && isFindingNumber(got) && !tellsSeed(callOf(rowsOfRun[i]))) {
                complain(where, rowsOfRun[i] + " answered " + got);
            }
            if (!due.isEmpty() && got != Calls.answer(due)) {
                complain(where, callOf(rowsOfRun[i]) + " answered " + got + ", due is " + due);
            }
            if (!due.isEmpty() && Calls.isFinding(due)) {
                tally[Calls.LOW - Calls.answer(due)]++;
                compareTwins(where, Arrays.copyOf(rowsOfRun, i + 1));
            }
            if (due.startsWith("-") && callOf(rowsOfRun[i]).equals("text()")) {
                compareTwins(where, Arrays.copyOf(rowsOfRun, i + 1), "wipe()");
            }
        }
        checkStatus(name, used, tally);
    }

    private void checkStatus(String name, Used used, int[] tally) {
        for (int which = -1; which < tally.length; which++) {
            int due = which < 0 ? Arrays.stream(tally).sum() : tally[which];
            int got = used.ask("status", which);
            if (got != due) {
                complain(name, "status(" + which + ") answered " + got + " at the end, due is " + due);
            }
        }
        if (used.calls > LONGEST) {
            complain(name, "too long a run");
        }
    }

    /** Two new objects go through the same rows, one with others in the place of the last: all answers then must be the same. */
    private void compareTwins(String where, String[] rowsTillNow, String... insteadOfLast) {
        Used with = new Used();
        Used without = new Used();
        for (String row : rowsTillNow) {
            with.makeRow(row);
        }
        for (String row : join(Arrays.copyOf(rowsTillNow, rowsTillNow.length - 1), insteadOfLast)) {
            without.makeRow(row);
        }
        if (!all(with).equals(all(without))) {
            complain(where, rowsTillNow[rowsTillNow.length - 1] + ", yet it changed something");
        }
        if (with.calls > LONGEST) {
            complain(where, "too many calls to look for changes");
        }
    }

    /** All that can be asked, but for status(); the object is of no use then. */
    private static List<Integer> all(Used used) {
        List<Integer> answers = new ArrayList<>();
        askSheets(used, answers);
        askHouse(used, answers);
        answers.add(used.ask("count", 5));
        answers.add(used.ask("text"));
        answers.add(used.ask("count", 1));
        answers.add(used.ask("now", 1));
        for (int s = 0; s < 4; s++) {
            answers.add(used.ask("load", s));
            answers.add(used.ask("count", 4));
        }
        if (used.ask("undo") >= 0) {
            askHouse(used, answers);
        }
        answers.add(used.ask("tear"));
        return answers;
    }

    private static void askSheets(Used used, List<Integer> answers) {
        for (int s = 0; s < 4; s++) {
            answers.add(used.ask("judge", s));
            answers.add(used.ask("fits", s));
            for (int n : new int[] {0, 1, 2, 3, 4, 6, 7, 40}) {
                answers.add(used.ask("copy", s, 0, s, 0, n));
            }
            answers.add(used.ask("copy", s, 0, (s + 1) % 4, 0, 0));
        }
    }

    /** What an image keeps; faces lose their looks and chances by being asked. */
    private static void askHouse(Used used, List<Integer> answers) {
        for (int what : new int[] {0, 1, 2, 3, 4, 6, 7}) {
            answers.add(used.ask("count", what));
        }
        for (int what = 1; what < 6; what++) {
            answers.add(used.ask("now", what));
        }
        for (int i = 0; i < 6; i++) {
            answers.add(used.ask("room", i, 0));
            answers.add(used.ask("room", i, 3));
            answers.add(used.ask("face", i, 0, 0));
            answers.add(used.ask("face", i, 1, 0));
        }
        int parts = used.ask("count", 1);
        for (int part = 0; part < parts; part++) {
            for (int what = 0; what < 4; what++) {
                answers.add(used.ask("of", part, what));
            }
        }
        int visitors = used.ask("count", 2);
        for (int visitor = 0; visitor < visitors; visitor++) {
            for (int what = 0; what < 3; what++) {
                answers.add(used.ask("seen", visitor, what));
            }
        }
        for (int spot = 0; spot < 10; spot++) {
            answers.add(used.ask("as", spot, 0));
        }
    }

    static String[] join(String[] first, String... then) {
        String[] both = Arrays.copyOf(first, first.length + then.length);
        System.arraycopy(then, 0, both, first.length, then.length);
        return both;
    }

    static String[] times(int n, String row) {
        String[] all = new String[n];
        Arrays.fill(all, row);
        return all;
    }

    boolean names(int promise) {
        return promises.contains(promise);
    }

    /** Tells how it went, and ends with code 1 if a row wasn't as due. */
    void end() {
        System.out.println(runs + " runs, " + rows + " rows: " + (wrong == 0 ? "all as due" : wrong + " things are not as due"));
        if (wrong != 0) {
            System.exit(1);
        }
    }
}
