/** A RING as full as can be: every call at its greatest numbers, and each search at its longest. */
public final class FullTest {
    private FullTest() {
    }

    public static void main(String[] args) {
        fullRing();
        everyNumber();
        longSearches();
        manyCalls();
        Checks.finish();
    }

    private static String full(String each) {
        StringBuilder text = new StringBuilder();
        for (int k = 0; k < 8; k++) {
            text.append("land ").append((char) ('a' + k)).append("l;");
        }
        for (int k = 0; k < 16; k++) {
            char name = (char) ('a' + k);
            text.append("thing ").append(name).append(' ').append((char) ('a' + k / 2)).append("l ").append(each).append(';');
        }
        for (int k = 0; k < 6; k++) {
            text.append("place ").append(500 * k).append(';');
        }
        for (int k = 0; k < 16; k++) {
            text.append("narrow ").append((char) ('a' + k)).append(" 1;");
        }
        return text.toString();
    }

    private static void fullRing() {
        RingPlaces r = Checks.ringOf(full("0 3599 ground 0 0 voice 0 loud 1 sharp 99"));
        for (int t = 0; t < 16; t++) {
            Checks.due("9: stand " + t, r.stand(t, 200 * t, 0), true);
        }
        Checks.due("37: all stand", r.count(3), 16);
        Checks.due("15: RIGHT", r.judge(), -1);
        Checks.due("26: RIGHT as it is", r.narrow(), 0);
        Checks.due("23: each by its 'bear'", r.fit(), 48);
        Checks.due("24: the last one", r.fitOf(15), 3);
        Checks.due("28: sold", r.sell(0, 15), 1);
        Checks.due("28: where it stands", r.stands(15, 0), 0);
        Checks.due("32: six", r.shares(0), 6);
        // 0, 1000, 2000 and 3000 less 500, 1500, 2500: of the PLACES 0, 1000 and 2000 are taken.
        Checks.due("32: half of them move", r.shares(1), 3);
        r.stand(15, 7, 0);
        r.stand(0, 0, 0);
        Checks.due("14: 7 from the first", r.wrong(15), 3);
        Checks.due("26: no set of six does", r.narrow(), -1);
        r.lift(15);
        Checks.due("25: a PLACE is free", r.letIn(15), 0);
        Checks.due("25: the first that is", r.stands(15, 0), 500);
        Checks.row(r, 4, 5, 6, 7, 8, 9, 10, 11, 12, 13, 14, 15);
        Checks.due("17: twelve", r.arc(), 220);
        Checks.row(r, 15, 14, 13, 12, 11, 10, 9);
        Checks.due("18: seven", r.shortest(), 120);
        Checks.due("19: the first order", r.orderAt(6), 15);
    }

    /** No answer is looked at: whatever is asked, nothing but the told exception may come of it. */
    private static void everyNumber() {
        int[] numbers = {Integer.MIN_VALUE, -3601, -2, -1, 0, 1, 2, 3, 4, 5, 6, 7, 8, 12, 13, 14, 15, 16, 17, 39, 40, 255,
            999, 1000, 1200, 1240, 1241, 1800, 3599, 3600, Integer.MAX_VALUE};
        String[] texts = {"", full("0 3599 ground 0 0 voice 0"), full("0 3599 ground 0 39 dead 300 4")};
        for (String text : texts) {
            for (int a : numbers) {
                askOne(allStand(text), a);
                RingPlaces r = allStand(text);
                int asked = 0;
                for (int b : numbers) {
                    askTwo(r, a, b);
                    asked++;
                    // An object is good for 512 calls.
                    if (asked % 20 == 0) {
                        r = allStand(text);
                    }
                }
            }
        }
    }

    private static RingPlaces allStand(String text) {
        RingPlaces r = Checks.ringOf(text);
        for (int t = 0; t < 16; t++) {
            r.stand(t, 3599 - t, t % 4);
        }
        return r;
    }

    private static void askOne(RingPlaces r, int a) {
        r.end(a);
        r.ground(a);
        r.place(a);
        r.heard(a);
        r.wrong(a);
        r.orderAt(a);
        r.fitOf(a);
        r.shares(a);
        r.image(a);
        r.restore(a);
        r.count(a);
        r.letIn(a);
        Checks.row(r, a & 255);
        r.find();
        Checks.row(r, a & 255, 15, 14);
        r.shortest();
        r.judge();
        r.fit();
        r.narrow();
        r.feed(a, a, a, a, a);
        r.ring();
        r.restore(0);
    }

    private static void askTwo(RingPlaces r, int a, int b) {
        Checks.thing(r, a, b);
        r.stands(a, b);
        r.reach(a, b);
        r.need(a, b);
        r.sell(a, b);
        r.good(a, b);
        r.right(a, b, 5);
        r.right(0, a, b);
        r.barred(a, b, 0);
        r.barred(15, a, b);
        Checks.drift(r, a, b, 7);
        Checks.drift(r, 15, a, b);
        r.meets(a, b, 0, 990);
        r.meets(15, 0, a, b);
        r.stand(a, b, 0);
        r.stand(15, a, b);
    }

    private static void longSearches() {
        RingPlaces r = Checks.ringOf(full("0 3599 voice 0 voice 1 voice 2 voice 3"));
        Checks.row(r, 15, 14, 13, 12);
        Checks.due("21: as many ways as can be", r.ways(), 331776);
        Checks.row(r, 15, 14, 13, 12);
        Checks.due("22: all four", r.most(), 4);
        RingPlaces never = Checks.ringOf(full("0 3599 ground 0 0 voice 0 voice 1 voice 2 voice 3").replaceAll("narrow . 1;", "")
            .replace("thing p hl 0 3599", "thing p hl 1 1"));
        for (int t = 0; t < 15; t++) {
            never.stand(t, 500 * (t % 6), t / 6);
        }
        Checks.due("15: not RIGHT", never.judge() != RingPlaces.NONE, true);
        Checks.due("25: no PLACE in its ARC", never.letIn(15), -1);
    }

    private static void manyCalls() {
        RingPlaces r = Checks.ringOf(full("0 3599 ground 0 9 voice 0 voice 1 bear 500"));
        int made = 0;
        for (int k = 0; k < 100; k++) {
            Checks.row(r, k % 16, (k + 1) % 16, (k + 2) % 16, (k + 3) % 16);
            made += r.find() == 1 ? 1 : 0;
        }
        Checks.due("20: found now and then", made > 0, true);
    }
}
