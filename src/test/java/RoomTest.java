import com.sun.management.ThreadMXBean;
import java.lang.management.ManagementFactory;
import java.lang.reflect.Array;
import java.lang.reflect.Field;
import java.lang.reflect.Modifier;
import java.math.BigInteger;
import java.util.ArrayDeque;
import java.util.Collections;
import java.util.Deque;
import java.util.IdentityHashMap;
import java.util.Set;

/** An object takes little room, and calls make nothing at all. */
public final class RoomTest {
    public static void main(String[] args) throws Exception {
        count(new SealedTokens());
        House h = filled();
        calls(h.x);
        ThreadMXBean bean = (ThreadMXBean) ManagementFactory.getThreadMXBean();
        for (int turn = 0; turn < 3; turn++) {
            calls(h.x);
            bean.getCurrentThreadAllocatedBytes();
        }
        long least = Long.MAX_VALUE;
        for (int turn = 0; turn < 5; turn++) {
            long before = bean.getCurrentThreadAllocatedBytes();
            long between = bean.getCurrentThreadAllocatedBytes();
            calls(h.x);
            long after = bean.getCurrentThreadAllocatedBytes();
            least = Math.min(least, after - between - (between - before));
        }
        System.out.println("all calls made " + least + " bytes");
        Check.that("calls made " + least + " bytes", least <= 0);
        longKids(bean);
        Check.end();
    }

    /** Ever longer kids: their room is kept, so all keys of a run together make little. */
    private static void longKids(ThreadMXBean bean) {
        House h = new House();
        String front = Keys.oct(new byte[1], ",\"kid\":\"\"");
        long made = 0;
        for (int turn = 0; turn < 512; turn++) {
            int many = Math.min(16 * turn, 8192 - front.length());
            h.put(0, Keys.oct(new byte[1], ",\"kid\":\"" + "k".repeat(many) + "\""));
            long before = bean.getCurrentThreadAllocatedBytes();
            int key = h.x.key(0);
            made += bean.getCurrentThreadAllocatedBytes() - before;
            Check.same("kid", h.x.told(key, 4), many);
            h.x.drop(turn % 3 == 0 ? key : turn % 16);
        }
        System.out.println("512 long kids made " + made + " bytes");
        Check.that("long kids made " + made + " bytes", made < 2_000_000);
    }

    private static House filled() {
        House h = new House().put(0, Keys.oct(Keys.bytes(64, 1), ",\"kid\":\"k\"")).put(1, Keys.rsa(1024, 65537, 1).text(true, "")).put(2, Keys.ec(BigInteger.TEN, true, ""));
        Check.same("key", h.x.key(0), 0);
        Check.same("key", h.x.key(1), 1);
        Check.same("key", h.x.key(2), 2);
        return h.put(3, Keys.bytes(150, 1)).put(4, Keys.bytes(32, 1)).put(5, Keys.bytes(16, 1)).put(6, "{\"a\":[1,\"\\ud83d\\ude00\",{}]}");
    }

    /** Each call at least once, and each in a way that goes through. */
    private static void calls(SealedTokens x) {
        x.feed(1, 2, 3, 4, 5);
        x.end(7);
        x.row(7);
        x.json(6);
        for (int i = 0; i < 4; i++) {
            x.value(i, 1);
            x.text(i);
            x.name(i);
            x.write(i);
        }
        x.member(0, 7);
        x.encode(3);
        x.keep(7);
        x.decode(7);
        x.poke(7, 0, 0);
        x.size(7);
        x.out(0);
        x.hash(256, 3);
        x.hash(512, 3);
        x.code(256, 3, 3);
        x.code(512, 3, 3);
        x.block(4, 5, false);
        x.block(4, 5, true);
        x.wrap(4, 4);
        x.keep(7);
        x.unwrap(4, 7);
        x.seal(0, 4, 5, 3, 3);
        x.keep(7);
        x.open(0, 4, 5, 3, 7);
        x.power(4, 4, 4);
        x.multiply(4, -1);
        x.keep(7);
        x.multiply(4, 7);
        x.derive(3, 3, 3, 3, 64);
        x.key(2);
        x.told(3, 0);
        x.print(3);
        x.drop(3);
        for (int alg = 0; alg < 5; alg++) {
            x.sign(alg < 2 ? 0 : alg < 4 ? 1 : 2, alg, -1, 5, 3);
            x.keep(7);
            x.verify(7);
        }
        for (int alg = 3; alg < 6; alg++) {
            x.encrypt(alg == 3 ? 1 : 2, alg, alg == 4 ? 0 : 2, 5, 3, 4, 5);
            x.keep(7);
            x.decrypt(7);
        }
        x.encrypt(0, 0, 1, 5, 3, 4, 5);
        x.keep(7);
        x.decrypt(7);
    }

    private static void count(Object root) throws Exception {
        Set<Object> seen = Collections.newSetFromMap(new IdentityHashMap<>());
        Deque<Object> open = new ArrayDeque<>();
        open.add(root);
        seen.add(root);
        long elements = 0;
        while (!open.isEmpty()) {
            Object o = open.poll();
            if (o.getClass().isArray()) {
                elements += Array.getLength(o);
                for (int i = 0; i < Array.getLength(o) && !o.getClass().getComponentType().isPrimitive(); i++) {
                    reach(Array.get(o, i), seen, open);
                }
                continue;
            }
            for (Field f : o.getClass().getDeclaredFields()) {
                if (!Modifier.isStatic(f.getModifiers())) {
                    elements++;
                    f.setAccessible(true);
                    if (!f.getType().isPrimitive()) {
                        reach(f.get(o), seen, open);
                    }
                }
            }
        }
        System.out.println("an object has " + seen.size() + " objects and arrays, " + elements + " fields and elements");
        Check.that("objects", seen.size() < 1000);
        Check.that("elements", elements < 200_000);
    }

    private static void reach(Object o, Set<Object> seen, Deque<Object> open) {
        if (o != null && seen.add(o)) {
            open.add(o);
        }
    }
}
