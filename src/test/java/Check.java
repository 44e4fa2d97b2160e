import java.util.Arrays;
import java.util.Base64;
import java.util.function.IntSupplier;

/** Counts and prints what is not as it is due; every test ends with end(). */
final class Check {
    private static int asked = 0;
    private static int wrong = 0;
    private static String sentence = "";
    private static int promise = 0;
    private static final int[] ASKED_OF = new int[35];

    private Check() {
    }

    /** What is asked from here on is asked of this promise, for the sake of this sentence. */
    static void promise(int number, String itsSentence) {
        promise = number;
        sentence = "promise " + number + ", " + itsSentence + ": ";
    }

    static void that(String what, boolean holds) {
        asked++;
        ASKED_OF[promise]++;
        if (!holds) {
            wrong++;
            if (wrong <= 50) {
                System.out.println("not as due: " + sentence + what);
            }
        }
    }

    static void same(String what, long got, long due) {
        that(what + " answered " + got + ", due is " + due, got == due);
    }

    static void same(String what, byte[] got, byte[] due) {
        that(what + " is " + show(got) + ", due is " + show(due), Arrays.equals(got, due));
    }

    /** Answers as due, and all is as it was: the tape, too, which is not left empty for that. */
    static void refused(House h, String what, IntSupplier call, int due) {
        if (State.isTapeEmpty(h.x)) {
            h.x.feed(0x01020304, -1, 3, 4, 5);
        }
        String[] before = State.of(h.x);
        same(what, call.getAsInt(), due);
        String changed = State.changed(before, State.of(h.x));
        that(what + " changed " + changed, changed == null);
    }

    private static String show(byte[] bytes) {
        byte[] front = bytes.length > 100 ? Arrays.copyOf(bytes, 100) : bytes;
        return bytes.length + " bytes " + Base64.getEncoder().encodeToString(front);
    }

    /** Fails also if one of these promises was never asked. */
    static void end(int first, int last) {
        for (int p = first; p <= last; p++) {
            promise(p, "any of it");
            that("it was not asked", ASKED_OF[p] > 0);
        }
        end();
    }

    static void end() {
        System.out.println(asked + " asked, " + wrong + " not as due");
        if (wrong != 0 || asked == 0) {
            System.exit(1);
        }
    }
}
