import java.util.Arrays;
import java.util.Base64;

/** Counts and prints what is not as it is due; every test ends with end(). */
final class Check {
    private static int asked = 0;
    private static int wrong = 0;

    private Check() {
    }

    static void that(String what, boolean holds) {
        asked++;
        if (!holds) {
            wrong++;
            if (wrong <= 50) {
                System.out.println("not as due: " + what);
            }
        }
    }

    static void same(String what, long got, long due) {
        that(what + " answered " + got + ", due is " + due, got == due);
    }

    static void same(String what, byte[] got, byte[] due) {
        that(what + " is " + show(got) + ", due is " + show(due), Arrays.equals(got, due));
    }

    private static String show(byte[] bytes) {
        byte[] front = bytes.length > 100 ? Arrays.copyOf(bytes, 100) : bytes;
        return bytes.length + " bytes " + Base64.getEncoder().encodeToString(front);
    }

    static void end() {
        System.out.println(asked + " asked, " + wrong + " not as due");
        if (wrong != 0 || asked == 0) {
            System.exit(1);
        }
    }
}
