import java.lang.reflect.InvocationTargetException;
import java.lang.reflect.Method;
import java.nio.charset.StandardCharsets;
import java.util.HashMap;
import java.util.Map;

/** Makes calls by their names, on an object of the class or of the model. */
final class Calls {
    static final String[] FINDINGS = {"BEYOND", "FULL", "KIND", "NONE", "STATE", "MISSING", "SIZE"};
    static final int LOW = -1000001;

    private final Map<String, Method> methods = new HashMap<>();

    Calls(Class<?> type) {
        for (Method m : type.getDeclaredMethods()) {
            if (java.lang.reflect.Modifier.isPublic(m.getModifiers())) {
                methods.put(m.getName(), m);
            }
        }
    }

    int make(Object object, String name, int... args) {
        Method method = methods.get(name);
        if (method == null || method.getParameterCount() != args.length) {
            throw new IllegalArgumentException("no such call: " + name + " with " + args.length);
        }
        Object[] boxed = new Object[args.length];
        for (int i = 0; i < args.length; i++) {
            boxed[i] = args[i];
        }
        try {
            return (Integer) method.invoke(object, boxed);
        } catch (InvocationTargetException e) {
            if (e.getCause() instanceof Model.Finding) {
                return ((Model.Finding) e.getCause()).told;
            }
            throw new IllegalStateException(name + java.util.Arrays.toString(args) + " threw", e.getCause());
        } catch (IllegalAccessException e) {
            throw new IllegalStateException(e);
        }
    }

    /** "name(1, 2)" is made. */
    int make(Object object, String call) {
        int open = call.indexOf('(');
        String inside = call.substring(open + 1, call.lastIndexOf(')')).trim();
        String[] words = inside.isEmpty() ? new String[0] : inside.split("\\s*,\\s*");
        int[] args = new int[words.length];
        for (int i = 0; i < words.length; i++) {
            args[i] = Integer.parseInt(words[i]);
        }
        return make(object, call.substring(0, open).trim(), args);
    }

    /** A text comes onto the tape, four bytes at a time. */
    void tape(Object object, String text) {
        byte[] bytes = text.getBytes(StandardCharsets.ISO_8859_1);
        for (int i = 0; i < bytes.length; i += 4) {
            int n = Math.min(4, bytes.length - i);
            int v = 0;
            for (int k = 0; k < n; k++) {
                v = v << 8 | bytes[i + k] & 255;
            }
            if (make(object, "feed", v, n) < 0) {
                throw new IllegalStateException("the tape has no place for: " + text);
            }
        }
    }

    /** The number of a finding, by its name, or of a number. */
    static int answer(String told) {
        for (int i = 0; i < FINDINGS.length; i++) {
            if (FINDINGS[i].equals(told)) {
                return LOW - i;
            }
        }
        return Integer.parseInt(told);
    }

    static boolean isFinding(String told) {
        return answer(told) <= LOW && !Character.isDigit(told.charAt(told.length() - 1));
    }
}
