import java.nio.ByteBuffer;
import java.nio.charset.StandardCharsets;
import java.util.Arrays;
import java.util.NoSuchElementException;

/** What the tests share: texts and rows onto the tape, and a count of the answers that are not as due. */
final class Checks {
    static final int THROWS = Integer.MIN_VALUE;
    /** Of RINGS that an object may have had ahead, as full as can be: what is told of each THING, and its paper. */
    static final String[][] RINGS_AHEAD = {{" 0 3599 ground 0 39 voice 0;", " 0 999 there 0;"},
        {" 500 700 ground 0 39 dead 9 9 loud 9;", " 0 999;"}};

    private static int wrong = 0;
    private static int made = 0;
    private static String about = "";
    private static String[] ringAhead = null;

    private Checks() {
    }

    /** From here on each new object has had such a RING ahead; null: none. */
    static void withRingAhead(String[] ahead) {
        ringAhead = ahead;
    }

    /** A new object. What its latest shortest, fit and narrow told is untouched, and nothing is kept. */
    static RingPlaces fresh() {
        RingPlaces r = new RingPlaces();
        if (ringAhead != null) {
            liveThrough(r, ringAhead[0], ringAhead[1]);
        }
        return r;
    }

    private static void liveThrough(RingPlaces r, String each, String paper) {
        StringBuilder text = new StringBuilder("apart 300;first there;");
        for (int k = 0; k < 8; k++) {
            text.append("land ").append((char) ('a' + k)).append(';');
        }
        for (int k = 0; k < 16; k++) {
            char name = (char) ('a' + k);
            text.append("thing t").append(name).append(' ').append((char) ('a' + k / 2)).append(each);
            text.append("paper t").append(name).append(paper);
        }
        for (int k = 0; k < 6; k++) {
            text.append("place ").append(k).append(';');
        }
        if (read(r, text.toString()) != 48) {
            throw new IllegalStateException("a RING with a FAULT: " + text);
        }
        for (int t = 0; t < 16; t++) {
            r.stand(t, 10 * t, t % 4);
        }
        r.shares(0);
        row(r, 0, 1);
        r.find();
        row(r, 15, 14, 13, 12, 11, 10, 9, 8, 7, 6, 5, 4);
        r.arc();
    }

    /** What the checks from here on are about. */
    static void about(String what) {
        about = what.isEmpty() ? "" : what + ": ";
    }

    /** How many checks were made. */
    static int made() {
        return made;
    }

    static void due(String what, long got, long want) {
        made++;
        if (got != want) {
            wrong++;
            System.out.println(about + what + " answered " + got + ", due is " + want);
        }
    }

    static void due(String what, boolean got, boolean want) {
        due(what, got ? 1 : 0, want ? 1 : 0);
    }

    /** Several answers of one kind, in their order. */
    static void dueAll(String what, int[] got, int... want) {
        dueText(what, Arrays.toString(got), Arrays.toString(want));
    }

    static void dueText(String what, String got, String want) {
        made++;
        if (!got.equals(want)) {
            wrong++;
            System.out.println(about + what + " answered " + got + ", due is " + want);
        }
    }

    static void finish() {
        System.exit(wrong == 0 ? 0 : 1);
    }

    static void tape(RingPlaces r, byte[] bytes) {
        r.end(0);
        for (int k = 0; k < bytes.length; k += 20) {
            ByteBuffer b = ByteBuffer.wrap(Arrays.copyOfRange(bytes, k, k + 20));
            r.feed(b.getInt(), b.getInt(), b.getInt(), b.getInt(), b.getInt());
        }
        r.end(bytes.length);
    }

    static void row(RingPlaces r, int... things) {
        byte[] bytes = new byte[things.length];
        for (int k = 0; k < things.length; k++) {
            bytes[k] = (byte) things[k];
        }
        tape(r, bytes);
    }

    static int read(RingPlaces r, String text) {
        tape(r, text.getBytes(StandardCharsets.ISO_8859_1));
        return r.ring();
    }

    /** A new object with a RING that must be without FAULT. */
    static RingPlaces ringOf(String text) {
        RingPlaces r = fresh();
        int lines = read(r, text);
        if (lines < 0) {
            due("ring() of " + text, lines, 0);
        }
        return r;
    }

    /** A new object reads the text: so many LINES. */
    static void lines(String text, int lines) {
        RingPlaces r = fresh();
        String what = shortened(text);
        due("4: LINES of " + what, read(r, text), lines);
        due("5: no FAULT of " + what, r.fault(), 0);
    }

    /** A new object reads the text: a FAULT of a kind, at a place. */
    static void fault(String text, int kind, int place) {
        RingPlaces r = fresh();
        String what = shortened(text);
        due("4: FAULT's place of " + what, read(r, text), -1 - place);
        due("5: FAULT's kind of " + what, r.fault(), kind);
        due("4: tape is empty behind the FAULT of " + what, r.count(5), 0);
    }

    /** A FAULT at the place of the sign ^ in a text, which is taken out of it. */
    static void faultAt(String marked, int kind) {
        int place = marked.indexOf('^');
        fault(marked.substring(0, place) + marked.substring(place + 1), kind, place);
    }

    private static String shortened(String text) {
        return text.length() > 60 ? ".." + text.substring(text.length() - 60) : text;
    }

    /** Stands of one THING after the other: its number, degree, VOICE. */
    static void stand(RingPlaces r, int... stands) {
        for (int k = 0; k + 2 < stands.length; k += 3) {
            due("9: stand " + stands[k], r.stand(stands[k], stands[k + 1], stands[k + 2]), true);
        }
    }

    /** All that can be asked without changing anything, for the first few THINGS. */
    static String state(RingPlaces r, int things) {
        StringBuilder all = new StringBuilder();
        for (int what = 0; what < 6; what++) {
            all.append(r.count(what)).append(' ');
        }
        all.append("fault ").append(r.fault()).append(" judge ").append(r.judge());
        all.append(" cost ").append(r.narrowCost());
        for (int t = 0; t < things; t++) {
            all.append("; ").append(t).append(" at ").append(r.stands(t, 0)).append(" voice ").append(r.stands(t, 1));
            all.append(" hears ").append(r.heard(t)).append(" fit ").append(r.fitOf(t)).append(" order ").append(r.orderAt(t));
            all.append(" loud ").append(thing(r, t, 4)).append(" sharp ").append(thing(r, t, 5));
        }
        return all.toString();
    }

    static String blanks(int many) {
        return " ".repeat(many);
    }

    static int thing(RingPlaces r, int t, int what) {
        try {
            return r.thing(t, what);
        } catch (NoSuchElementException e) {
            return THROWS;
        }
    }

    static int drift(RingPlaces r, int t, int x, int day) {
        try {
            return r.drift(t, x, day);
        } catch (NoSuchElementException e) {
            return THROWS;
        }
    }

    /** Degree and VOICE of some THINGS, one behind the other. */
    static int[] standings(RingPlaces r, int... things) {
        int[] all = new int[2 * things.length];
        for (int k = 0; k < things.length; k++) {
            all[2 * k] = r.stands(things[k], 0);
            all[2 * k + 1] = r.stands(things[k], 1);
        }
        return all;
    }
}
