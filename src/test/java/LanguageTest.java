import java.io.IOException;
import java.lang.management.ManagementFactory;
import java.lang.reflect.Constructor;
import java.lang.reflect.Field;
import java.lang.reflect.Method;
import java.lang.reflect.Modifier;
import java.nio.file.Files;
import java.nio.file.Path;
import java.util.Arrays;
import java.util.List;
import java.util.Set;
import java.util.TreeSet;
import java.util.regex.Matcher;
import java.util.regex.Pattern;

/** The face, the rules of LANGUAGE.md that can be told from the source, and that calls make no objects. */
public final class LanguageTest {
    private static final String SOURCE = "src/main/java/SameHeads.java";
    private static final String FACE =
        "part1 of2 change3 face3 show2 pace1 room2 like2 carries2 visitor0 seen2 move2 waits1 now1 most0 given1 likest1 whom1 "
        + "missed1 recast1 kindFor1 unseen2 hidden1 empty0 worth2 next0 mould1 cuts1 fits1 maybe2 stand2 fire2 papers1 seed1 "
        + "feed2 wipe0 text0 hold2 as2 sheet3 write3 copy5 load1 judge1 image0 undo0 tear0 count1 status1";
    private static final String[] REFUSED = {
        "\\bthrows?\\b", "\\btry\\b", "\\bcatch\\b", "\\bsynchronized\\b", "\\bassert\\b", "->", "::", "\\bvar\\b",
        "\\bprotected\\b", "Exact\\b", "\\bhashCode\\b", "\\btoString\\b", "\\bSystem\\.(?!arraycopy)", "\\bMath\\.(?!max|min|abs)",
        "\\bArrays\\.(?!fill|copyOf)", "\\bInteger\\.(?!bitCount)", "\\bimport (?!java\\.util\\.Arrays;)", "\"\\s*\\+", "\\+\\s*\"",
        "\\bpackage\\b", "static \\{", "while \\(true\\)", "for \\(;"
    };
    private static int wrong = 0;

    private static void must(boolean ok, String what) {
        if (!ok) {
            wrong++;
            System.out.println(what);
        }
    }

    private static void faceIsAsTold() {
        Set<String> due = new TreeSet<>(Arrays.asList(FACE.split(" ")));
        Set<String> found = new TreeSet<>();
        for (Method m : SameHeads.class.getDeclaredMethods()) {
            if (Modifier.isPublic(m.getModifiers())) {
                found.add(m.getName() + m.getParameterCount());
                must(m.getReturnType() == int.class, m + " answers no int");
                must(!Modifier.isStatic(m.getModifiers()), m + " is static");
                must(Arrays.stream(m.getParameterTypes()).allMatch(t -> t == int.class), m + " takes other than ints");
            } else {
                must(Modifier.isPrivate(m.getModifiers()), m + " is neither public nor private");
            }
        }
        must(found.equals(due), "the face is " + found + ", due is " + due);
        Constructor<?>[] made = SameHeads.class.getDeclaredConstructors();
        must(made.length == 1 && made[0].getParameterCount() == 0 && Modifier.isPublic(made[0].getModifiers()),
            "there is another constructor");
        must(Modifier.isFinal(SameHeads.class.getModifiers()), "the class is not final");
        for (Field f : SameHeads.class.getDeclaredFields()) {
            must(Modifier.isPrivate(f.getModifiers()), f + " is not private");
        }
    }

    private static void insideIsAsTold() {
        Set<String> names = new TreeSet<>();
        for (Method m : SameHeads.class.getDeclaredMethods()) {
            if (Modifier.isPublic(m.getModifiers())) {
                names.add(m.getName());
            }
        }
        Class<?>[] inside = SameHeads.class.getDeclaredClasses();
        must(inside.length <= 11, "too many classes");
        for (Class<?> c : inside) {
            must(Modifier.isStatic(c.getModifiers()), c + " is not static");
            int fields = 0;
            for (Field f : c.getDeclaredFields()) {
                fields += Modifier.isStatic(f.getModifiers()) ? 0 : 1;
                must(!Modifier.isStatic(f.getModifiers()) || Modifier.isFinal(f.getModifiers()), f + " is static, not final");
            }
            must(fields <= 20, c + " has too many fields");
            for (Method m : c.getDeclaredMethods()) {
                must(!names.contains(m.getName()), m + " has the name of a public one");
                must(m.getParameterCount() <= 7, m + " takes too many");
            }
        }
        for (Method m : SameHeads.class.getDeclaredMethods()) {
            must(Modifier.isPublic(m.getModifiers()) || !names.contains(m.getName()), m + " has the name of a public one");
        }
    }

    private static String withoutComments(String source) {
        return Pattern.compile("/\\*.*?\\*/|//[^\n]*", Pattern.DOTALL).matcher(source).replaceAll("");
    }

    private static void sourceIsAsTold(String source) {
        for (String refused : REFUSED) {
            Matcher m = Pattern.compile(refused).matcher(withoutComments(source));
            must(!m.find(), "the source has " + refused);
        }
        must(source.chars().allMatch(c -> c == '\n' || c >= 32 && c < 127), "the source has other signs than 32 to 126");
        int begun = 0;
        String[] lines = source.split("\n");
        for (int i = 0; i < lines.length; i++) {
            if (lines[i].matches("( {4}| {8})[A-Za-z].*\\) \\{") && !lines[i].contains(" class ")) {
                begun = i;
            }
            if (lines[i].matches(" {4}}| {8}}") && begun > 0) {
                must(i - begun <= 60, "too long a method at line " + (begun + 1));
                begun = 0;
            }
        }
    }

    private static int use(SameHeads x) {
        int sum = 0;
        for (int p = 0; p < 10; p++) {
            sum += x.part(p % 7) + x.change(p, 1, 25 * p) + x.change(p, 3, p % 6);
        }
        for (int r = 0; r < 6; r++) {
            sum += x.show(r, r) + x.face(r, 0, 40 * r) + x.given(r) + x.recast(r) + x.kindFor(r) + x.missed(r);
        }
        sum += x.sheet(0, 8, 6) + x.fits(0) + x.maybe(0, 1) + x.write(0, 1, 3) + x.load(0) + x.judge(0) + x.copy(0, 1, 0, 2, 3);
        sum += x.visitor() + x.waits(9) + x.unseen(1, 4) + x.hidden(5) + x.move(1, 4) + x.papers(12) + x.image() + x.undo();
        sum += x.feed(1885430629, 4) + x.feed(8247, 2) + x.text() + x.worth(3, 0) + x.next() + x.stand(5, 9) + x.fire(2, 3);
        sum += x.room(3, 2) + x.now(2) + x.most() + x.empty() + x.mould(1) + x.cuts(1) + x.hold(1, 1) + x.as(1, 0) + x.status(-1);
        return sum;
    }

    private static void callsMakeNothing() {
        int many = 2000;
        SameHeads[] made = new SameHeads[many];
        com.sun.management.ThreadMXBean bean = (com.sun.management.ThreadMXBean) ManagementFactory.getThreadMXBean();
        long self = Thread.currentThread().getId();
        bean.getThreadAllocatedBytes(self);
        long before = bean.getThreadAllocatedBytes(self);
        for (int i = 0; i < many; i++) {
            made[i] = new SameHeads();
        }
        long between = bean.getThreadAllocatedBytes(self);
        int sum = 0;
        for (SameHeads x : made) {
            sum += use(x);
        }
        long after = bean.getThreadAllocatedBytes(self);
        must(sum != 0, "the calls were not made");
        must(after - between < 100L * many, "calls make objects: " + (after - between) / many + " bytes an object");
        must((between - before) / many < 8192, "a new object takes " + (between - before) / many + " bytes");
    }

    public static void main(String[] args) throws IOException {
        faceIsAsTold();
        insideIsAsTold();
        List<String> lines = Files.readAllLines(Path.of(SOURCE));
        sourceIsAsTold(String.join("\n", lines));
        callsMakeNothing();
        System.out.println(wrong == 0 ? "the face and the language are as told" : wrong + " things are not as told");
        if (wrong != 0) {
            System.exit(1);
        }
    }
}
