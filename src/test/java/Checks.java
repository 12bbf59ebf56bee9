import java.nio.ByteBuffer;
import java.nio.charset.StandardCharsets;
import java.util.Arrays;
import java.util.NoSuchElementException;

/** What the tests share: texts and rows onto the tape, and a count of the answers that are not as due. */
final class Checks {
    static final int THROWS = Integer.MIN_VALUE;

    private static int wrong = 0;

    private Checks() {
    }

    static void due(String what, long got, long want) {
        if (got != want) {
            wrong++;
            System.out.println(what + " answered " + got + ", due is " + want);
        }
    }

    static void due(String what, boolean got, boolean want) {
        due(what, got ? 1 : 0, want ? 1 : 0);
    }

    /** Several answers of one kind, in their order. */
    static void dueAll(String what, int[] got, int... want) {
        if (!Arrays.equals(got, want)) {
            wrong++;
            System.out.println(what + " answered " + Arrays.toString(got) + ", due is " + Arrays.toString(want));
        }
    }

    static void finish() {
        System.exit(wrong == 0 ? 0 : 1);
    }

    static void tape(RingPlaces r, byte[] bytes) {
        r.end(0);
        for (int k = 0; k < bytes.length; k += 20) {
            ByteBuffer b = ByteBuffer.wrap(Arrays.copyOfRange(bytes, k, k + 20));
            r.feed(b.getInt(), b.getInt(), b.getInt(), b.getInt(), b.getInt());
        }
        r.end(bytes.length);
    }

    static void row(RingPlaces r, int... things) {
        byte[] bytes = new byte[things.length];
        for (int k = 0; k < things.length; k++) {
            bytes[k] = (byte) things[k];
        }
        tape(r, bytes);
    }

    static int read(RingPlaces r, String text) {
        tape(r, text.getBytes(StandardCharsets.ISO_8859_1));
        return r.ring();
    }

    /** A new object with a RING that must be without FAULT. */
    static RingPlaces ringOf(String text) {
        RingPlaces r = new RingPlaces();
        int lines = read(r, text);
        if (lines < 0) {
            due("ring() of " + text, lines, 0);
        }
        return r;
    }

    static String blanks(int many) {
        return " ".repeat(many);
    }

    static int thing(RingPlaces r, int t, int what) {
        try {
            return r.thing(t, what);
        } catch (NoSuchElementException e) {
            return THROWS;
        }
    }

    static int drift(RingPlaces r, int t, int x, int day) {
        try {
            return r.drift(t, x, day);
        } catch (NoSuchElementException e) {
            return THROWS;
        }
    }

    /** Degree and VOICE of some THINGS, one behind the other. */
    static int[] standings(RingPlaces r, int... things) {
        int[] all = new int[2 * things.length];
        for (int k = 0; k < things.length; k++) {
            all[2 * k] = r.stands(things[k], 0);
            all[2 * k + 1] = r.stands(things[k], 1);
        }
        return all;
    }
}
