import java.lang.reflect.Array;
import java.lang.reflect.Field;
import java.lang.reflect.Modifier;
import java.util.Arrays;

/** All that an object holds, looked at from inside: some of it (the tape, a full row) can't be seen by calls without changing it. */
final class State {
    private static final String[] PARTS = {"the tape", "OUT", "the text at hand", "the keys", "the rows"};

    private State() {
    }

    /** The tape, OUT, the text at hand, the keys, the rows. */
    static String[] of(SealedTokens x) {
        StringBuilder keys = new StringBuilder();
        Object all = get(x, "keys");
        for (int k = 0; k < 16; k++) {
            Object key = Array.get(all, k);
            keys.append((Boolean) get(key, "there") ? show(key) : "-").append(';');
        }
        StringBuilder rows = new StringBuilder();
        for (int r = 0; r < 8; r++) {
            rows.append(show(Array.get(get(x, "rows"), r))).append(';');
        }
        return new String[] {show(get(x, "tape")), show(get(x, "shown")), show(get(x, "hand")), keys.toString(), rows.toString()};
    }

    static boolean isTapeEmpty(SealedTokens x) {
        return (Integer) get(get(x, "tape"), "many") == 0;
    }

    /** The first part that is another one; null: all is as it was. */
    static String changed(String[] before, String[] after) {
        for (int part = 0; part < PARTS.length; part++) {
            if (!before[part].equals(after[part])) {
                return PARTS[part];
            }
        }
        return null;
    }

    private static Object get(Object of, String field) {
        try {
            Field f = of.getClass().getDeclaredField(field);
            f.setAccessible(true);
            return f.get(of);
        } catch (ReflectiveOperationException e) {
            throw new IllegalStateException(e);
        }
    }

    private static String show(Object o) {
        if (o.getClass().getSimpleName().equals("Bytes")) {
            int many = (Integer) get(o, "many");
            return many + ":" + Arrays.hashCode(Arrays.copyOf((int[]) get(o, "at"), many));
        }
        StringBuilder s = new StringBuilder();
        for (Field f : o.getClass().getDeclaredFields()) {
            if (!Modifier.isStatic(f.getModifiers())) {
                Object v = get(o, f.getName());
                s.append(f.getName()).append('=').append(v instanceof int[] a ? String.valueOf(Arrays.hashCode(a)) : f.getType().isPrimitive() ? String.valueOf(v) : show(v)).append(',');
            }
        }
        return s.toString();
    }
}
