import java.lang.reflect.InvocationTargetException;
import java.lang.reflect.Method;
import java.nio.ByteBuffer;
import java.nio.charset.StandardCharsets;
import java.util.Arrays;
import java.util.Random;

/** Runs of calls, told by a seed, on RingPlaces and on the PlainModel: both must answer alike. */
public final class PlainModelTest {
    private static final int RUNS = 400;
    private static final int CALLS = 512;
    private static final int STYLES = 5;
    /** A style of text in which all hear one another, and only some are drowned. */
    private static final int CROWDED = 4;

    private static int wrong = 0;

    private final Random random;
    private final int run;
    private final RingPlaces ours = new RingPlaces();
    private final PlainModel plain = new PlainModel();
    /** The calls that ours has had; whatever else a run must know it asks of the plain one. */
    private int calls = 0;
    private int things = 0;

    private PlainModelTest(int run) {
        this.run = run;
        this.random = new Random(run);
    }

    public static void main(String[] args) throws Exception {
        int from = args.length > 0 ? Integer.parseInt(args[0]) : 1;
        int to = args.length > 1 ? Integer.parseInt(args[1]) : RUNS;
        for (int run = from; run <= to && wrong < 20; run++) {
            new PlainModelTest(run).play();
        }
        System.exit(wrong == 0 ? 0 : 1);
    }

    private void play() throws Exception {
        while (calls < CALLS) {
            int kind = random.nextInt(100);
            if (calls == 0 || kind < 3) {
                newRing();
            } else if (kind < 25) {
                standSomewhere();
            } else if (kind < 50) {
                callWithRow();
            } else if (kind < 70) {
                call("fit");
                call("letIn", someThing());
                call("narrow");
                call("narrowCost");
                call("sell", someThing(), someThing());
                lookAtAll();
            } else {
                oddCall();
            }
        }
    }

    // ---- texts

    private void newRing() throws Exception {
        if (random.nextInt(3) == 0) {
            readText(spoilt(text()));
        }
        readText(text());
        things = plain.count(1);
        for (int what = 0; what < 7; what++) {
            call("count", what);
        }
        for (int t = 0; t < things; t++) {
            call("thing", t, random.nextInt(14));
            call("ground", t);
        }
    }

    private void readText(String text) throws Exception {
        byte[] bytes = text.getBytes(StandardCharsets.ISO_8859_1);
        if (bytes.length > 1240) {
            bytes = Arrays.copyOf(bytes, 1240);
        }
        feedTape(bytes);
        call("ring");
        call("fault");
    }

    private String text() {
        StringBuilder text = new StringBuilder();
        int lands = 1 + random.nextInt(4);
        for (int l = 0; l < lands; l++) {
            text.append("land l").append((char) ('a' + l)).append(';');
        }
        int many = 2 + random.nextInt(random.nextInt(4) == 0 ? 15 : 6);
        int style = random.nextInt(STYLES);
        for (int t = 0; t < many; t++) {
            appendThing(text, t, lands, style);
        }
        int places = random.nextInt(7);
        int at = style == 0 ? random.nextInt(3600) : 3450;
        for (int p = 0; p < places; p++) {
            text.append("place ").append(at % 3600).append(';');
            at += 1 + random.nextInt(style == 0 ? 600 : 100);
        }
        if (random.nextBoolean() || style == CROWDED) {
            text.append("apart ").append(random.nextInt(random.nextBoolean() || style == CROWDED ? 20 : 301)).append(";\n");
        }
        if (random.nextInt(3) == 0) {
            text.append(random.nextBoolean() ? "first there;" : "first paper ;");
        }
        for (int t = 0; t < many; t++) {
            if (random.nextInt(3) > 0) {
                int day = random.nextInt(30);
                text.append("paper t").append((char) ('a' + t)).append(' ').append(day);
                text.append(' ').append(day + random.nextInt(30));
                text.append(random.nextBoolean() ? " there " + random.nextInt(70) : "").append(';');
            }
            if (random.nextBoolean()) {
                text.append("narrow t").append((char) ('a' + t)).append(' ').append(random.nextInt(6)).append(';');
            }
        }
        return text.toString();
    }

    private void appendThing(StringBuilder text, int t, int lands, int style) {
        int from = style == 0 ? random.nextInt(3600) : 3400 + random.nextInt(200);
        int to = style == 0 ? random.nextInt(3600) : random.nextInt(400);
        text.append("thing t").append((char) ('a' + t)).append(" l").append((char) ('a' + random.nextInt(lands)));
        text.append(' ').append(from).append(' ').append(to);
        int cell = style == CROWDED ? 0 : random.nextInt(style == 3 ? 36 : 8);
        text.append(" ground ").append(cell).append(' ').append(cell + random.nextInt(4));
        for (int v = 0; v < 1 + random.nextInt(2); v++) {
            text.append(" voice ").append(style == CROWDED ? 0 : random.nextInt(style == 1 ? 2 : 4));
        }
        if (random.nextBoolean() || style == CROWDED) {
            text.append(" loud ").append(1 + random.nextInt(random.nextBoolean() || style == CROWDED ? 40 : 999));
        }
        if (random.nextBoolean()) {
            text.append(" sharp ").append(1 + random.nextInt(random.nextBoolean() ? 10 : 99));
        }
        if (random.nextInt(4) > 0) {
            text.append(" bear ").append(random.nextInt(random.nextBoolean() ? 300 : 3000));
        }
        if (random.nextBoolean()) {
            text.append(" worth ").append(random.nextInt(4));
        }
        if (random.nextInt(6) == 0) {
            text.append(" dead ").append(random.nextInt(301)).append(' ').append(4 + random.nextInt(300));
        }
        text.append(';');
    }

    private static final String[] BITS = {";", " ", "\n", "land", "thing", "paper", "there", "9999", "10000", "3600",
        "apart 5;", "first there;", "place 7;", "place 7;", "land q;", "ta", "la", "zz", "0", "abcdefg", "a1", ".", "A",
        "loud 0", "dead 3 4", "voice 4", "ground 3 2", "narrow ta 3;", "paper ta 3 2;", "worth 3", "\u00e9", "\t"};

    private String spoilt(String text) {
        StringBuilder spoilt = new StringBuilder(text);
        if (random.nextInt(4) == 0) {
            while (spoilt.length() < 1190 + random.nextInt(20)) {
                spoilt.insert(spoilt.indexOf(";") + 1, random.nextBoolean() ? " " : "\n");
            }
        }
        for (int k = random.nextInt(3); k >= 0; k--) {
            int at = random.nextInt(spoilt.length() + 1);
            String bit = BITS[random.nextInt(BITS.length)];
            switch (random.nextInt(4)) {
                case 0:
                    spoilt.insert(at, bit);
                    break;
                case 1:
                    spoilt.insert(spoilt.substring(0, at).lastIndexOf(';') + 1, bit);
                    break;
                case 2:
                    spoilt.delete(at, Math.min(spoilt.length(), at + 1 + random.nextInt(3)));
                    break;
                default:
                    spoilt.replace(at, Math.min(spoilt.length(), at + bit.length()), bit);
                    break;
            }
        }
        return spoilt.toString();
    }

    private void feedTape(byte[] bytes) throws Exception {
        for (int k = 0; k < bytes.length; k += 20) {
            ByteBuffer b = ByteBuffer.wrap(Arrays.copyOfRange(bytes, k, k + 20));
            call("feed", b.getInt(), b.getInt(), b.getInt(), b.getInt(), b.getInt());
        }
        call("end", bytes.length);
    }

    // ---- calls

    private int someThing() {
        return random.nextInt(20) == 0 ? random.nextInt(20) - 2 : random.nextInt(Math.max(1, things));
    }

    private int someDegree() {
        int k = random.nextInt(10);
        if (k == 0) {
            return random.nextInt(3700) - 50;
        }
        int place = plain.place(random.nextInt(6));
        return k < 7 && place != -1 ? place : (3400 + random.nextInt(600)) % 3600;
    }

    private int degreeInArc(int t) {
        if (t < 0 || t >= things) {
            return 0;
        }
        int from = plain.thing(t, 1);
        return (from + random.nextInt(Math.floorMod(plain.thing(t, 2) - from, 3600) + 1)) % 3600;
    }

    private int someDead() {
        for (int t = random.nextInt(5); t < things; t++) {
            if (plain.thing(t, 8) != RingPlaces.NONE) {
                return t;
            }
        }
        return someThing();
    }

    private int someDay() {
        int k = random.nextInt(20);
        return k == 0 ? random.nextInt(1010) - 5 : random.nextInt(random.nextBoolean() ? 35 : 80);
    }

    private void standSomewhere() throws Exception {
        int t = someThing();
        if (random.nextInt(3) == 0) {
            call("lift", t);
        } else {
            int voice = random.nextInt(20) == 0 ? random.nextInt(7) - 1 : random.nextInt(4);
            int own = t >= 0 && t < things ? plain.thing(t, 3) : 0;
            if (own != 0 && random.nextInt(3) > 0) {
                voice = Integer.numberOfTrailingZeros(own);
            }
            call("stand", t, random.nextInt(3) > 0 ? degreeInArc(t) : someDegree(), voice);
        }
        call("heard", t);
        call("wrong", t);
        call("judge");
    }

    private void callWithRow() throws Exception {
        String[] names = {"arc", "shortest", "find", "ways", "most", "find", "most"};
        String name = names[random.nextInt(names.length)];
        boolean search = !name.equals("arc") && !name.equals("shortest");
        int length = search ? 1 + random.nextInt(3) : 2 + random.nextInt(name.equals("arc") ? 6 : 4);
        if (random.nextInt(12) == 0) {
            length = random.nextInt(14);
        }
        byte[] row = new byte[length];
        int from = random.nextInt(Math.max(1, things));
        for (int k = 0; k < length; k++) {
            row[k] = (byte) (random.nextInt(30) == 0 ? random.nextInt(256) : (from + k * 5) % Math.max(1, things));
        }
        feedTape(row);
        call(name);
        lookAtAll();
        call("orderAt", random.nextInt(9) - 1);
        call("count", 5);
    }

    private void lookAtAll() throws Exception {
        for (int t = 0; t < things; t++) {
            call("stands", t, 0);
            call("stands", t, 1);
            call("heard", t);
        }
        call("fitOf", random.nextInt(18) - 1);
    }

    private void oddCall() throws Exception {
        switch (random.nextInt(12)) {
            case 0:
                call("reach", someThing(), someThing());
                break;
            case 1:
                call("need", someThing(), someThing());
                break;
            case 2:
                call("good", someThing(), someDay());
                break;
            case 3:
                call("right", someThing(), someThing(), someDay());
                break;
            case 4:
                int barredOne = someThing();
                int day = someDay();
                call("barred", barredOne, day, 0);
                call("barred", barredOne, day, 1);
                call("barred", someThing(), someDay(), random.nextInt(5) - 2);
                break;
            case 5:
                call("shares", 0);
                call("shares", 1);
                call("shares", random.nextInt(5) - 2);
                break;
            case 6:
                call("drift", someDead(), someDegree(), random.nextInt(1002) - 1);
                break;
            case 7:
                call("meets", someDead(), someDegree(), random.nextInt(4), random.nextInt(300) - 1);
                call("meets", someThing(), someDegree(), random.nextInt(6) - 1, random.nextInt(1002) - 1);
                break;
            case 8:
                call("image", random.nextInt(4) - 1);
                break;
            case 9:
                call("restore", random.nextInt(4) - 1);
                things = plain.count(1);
                break;
            case 10:
                call("place", random.nextInt(8) - 1);
                call("thing", someThing(), random.nextInt(17) - 1);
                call("stands", someThing(), random.nextInt(5) - 2);
                break;
            default:
                call("end", random.nextInt(30) - 3);
                call("fault");
                call("count", random.nextInt(9) - 1);
                break;
        }
    }

    private void call(String name, int... args) throws Exception {
        if (calls >= CALLS) {
            return;
        }
        calls++;
        String ourAnswer = answer(ours, name, args);
        String plainAnswer = answer(plain, name, args);
        if (!ourAnswer.equals(plainAnswer)) {
            wrong++;
            System.out.println("run " + run + ", call " + calls + ": " + name + Arrays.toString(args) + " answered "
                + ourAnswer + ", due is " + plainAnswer);
        }
    }

    private static String answer(Object on, String name, int[] args) throws Exception {
        Class<?>[] types = new Class<?>[args.length];
        Arrays.fill(types, int.class);
        Method method = on.getClass().getDeclaredMethod(name, types);
        method.setAccessible(true);
        Object[] values = new Object[args.length];
        for (int k = 0; k < args.length; k++) {
            values[k] = args[k];
        }
        try {
            return String.valueOf(method.invoke(on, values));
        } catch (InvocationTargetException e) {
            return "throws." + e.getCause().getClass().getSimpleName();
        }
    }
}
