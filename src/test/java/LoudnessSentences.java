/** A test for each sentence of FIT and NARROW, and of promises 23, 24, 26 and 27. */
final class LoudnessSentences {
    private static final String TERMS = "Terms";
    private static final int LEAST = Integer.MIN_VALUE;
    private static final int GREATEST = Integer.MAX_VALUE;

    private LoudnessSentences() {
    }

    static void all() {
        fitOfEach();
        fitByHearing();
        fitFromOne();
        noFit();
        fitCalls();
        fitOfCalls();
        narrowSets();
        narrowTwice();
        narrowCosts();
        narrowCalls();
        costCalls();
    }

    private static int[] fitOf(RingPlaces r, int many) {
        int[] all = new int[many];
        for (int t = 0; t < many; t++) {
            all[t] = r.fitOf(t);
        }
        return all;
    }

    private static void alone(int bear, int loud) {
        RingPlaces r = Checks.ringOf("land l;thing a l 0 9 bear " + bear + ";");
        Checks.stand(r, 0, 0, 0);
        Checks.due("23: 'bear' " + bear, r.fit(), loud);
        Checks.due("24: 'bear' " + bear, r.fitOf(0), loud);
    }

    private static void fitOfEach() {
        Document.says(TERMS, "FIT: the least loudness (whole, 1 to 999) of each THING that stands and is not DEAD,");
        alone(0, 1);
        alone(1, 1);
        alone(9999, 500);
        RingPlaces r = Checks.ringOf("land l;thing a l 0 9 bear 0;thing b l 0 9 bear 0;thing z l 0 9 bear 9999 dead 1 4;thing c l 0 9 bear 99;");
        Checks.stand(r, 0, 0, 0, 2, 0, 0, 3, 0, 0);
        Checks.due("23: a and c", r.fit(), 1 + 5);
        Checks.dueAll("24: each", fitOf(r, 4), 1, -1, -1, 5);
        RingPlaces z = Checks.ringOf("land l;thing a l 0 9 ground 0 0 bear 0;thing z l 0 9 ground 0 0 loud 999 dead 1 4;");
        Checks.stand(z, 0, 0, 0, 1, 98, 0);
        Checks.due("23: 999 are needed", z.fit(), 999);
    }

    private static void fitByHearing() {
        Document.says(TERMS, "so that its loudness times 20 is no less than its 'bear' and ten times what it HEARS, added"
            + " (DEAD ones as loud as told):");
        int[][] bears = {{20, 1}, {21, 2}, {40, 2}, {41, 3}, {9980, 499}, {9981, 500}};
        for (int[] one : bears) {
            alone(one[0], one[1]);
        }
        // a hears 200000 by 500 of z.
        withDead(0, 200, 98, 200);
        withDead(1, 200, 98, 201);
        withDead(20, 200, 98, 201);
        withDead(21, 200, 98, 202);
        withDead(0, 1, 18, 5);
        withDead(0, 1, 1800, 1);
        RingPlaces r = Checks.ringOf("land l;thing a l 0 9 ground 0 0 bear 0;thing z l 0 9 ground 0 0 loud 200 dead 1 4;"
            + "thing b l 0 9 ground 0 0 bear 9999;");
        Checks.stand(r, 0, 0, 0, 1, 98, 1);
        Checks.due("23: with other VOICES nothing is heard", r.fit(), 1);
        Checks.stand(r, 1, 98, 0, 2, 0, 1);
        Checks.due("23: b is not heard by a", r.fit(), 200 + 500);
        r.lift(1);
        Checks.due("23: z does not stand", r.fit(), 1 + 500);
        RingPlaces h = Checks.ringOf("land l;thing a l 0 9 ground 0 0 bear 0 loud 999;thing b l 0 9 ground 0 0 bear 200 sharp 7 loud 999;");
        Checks.stand(h, 0, 0, 0, 1, 1000, 0);
        // b is as loud as 10 then: 10000 by 7010 is 1, which needs 1; a is as loud as 1: 1000 by 5010 is 0.
        Checks.due("23: as loud as they are by FIT, not as told", h.fit(), 1 + 10);
    }

    private static void withDead(int bear, int loudOfDead, int gap, int loud) {
        RingPlaces r = Checks.ringOf("land l;thing a l 0 9 ground 0 0 bear " + bear + ";thing z l 0 9 ground 0 0 loud " + loudOfDead
            + " dead 1 4;");
        Checks.stand(r, 0, 0, 0, 1, gap, 0);
        Checks.due("23: 'bear' " + bear + ", a DEAD one of " + loudOfDead + " at " + gap, r.fit(), loud);
    }

    private static RingPlaces pair(int bearOfA, int bearOfB, int gap) {
        RingPlaces r = Checks.ringOf("land l;thing a l 0 9 ground 0 0 sharp 1 bear " + bearOfA + ";thing b l 0 9 ground 0 0 sharp 1 bear "
            + bearOfB + ";");
        Checks.stand(r, 0, 0, 0, 1, gap, 0);
        return r;
    }

    private static void fitFromOne() {
        Document.says(TERMS, "from 1 each, all anew together, as much as is needed by what was ahead, until nothing changes;");
        // By 500 each is heard as twice its loudness and needs just that: any loudness would do, 1 is the least.
        RingPlaces r = pair(0, 0, 490);
        Checks.due("23: 1 each", r.fit(), 2);
        Checks.due("23: once more", r.fit(), 2);
        Checks.read(r, "land l;thing a l 0 9 bear 9999;thing b l 0 9 bear 9999;");
        Checks.stand(r, 0, 0, 0, 1, 0, 0);
        Checks.due("23: another RING", r.fit(), 1000);
        Checks.read(r, "land l;thing a l 0 9 ground 0 0 sharp 1 bear 0;thing b l 0 9 ground 0 0 sharp 1 bear 0;");
        Checks.stand(r, 0, 0, 0, 1, 490, 0);
        Checks.due("23: from 1 each, and not from what was", r.fit(), 2);
        // By 1010: 3 and 4 at first, then 4 and 5, then 5 and 5, then 5 and 6.
        RingPlaces few = Checks.ringOf("land l;thing a l 0 9 ground 0 0 bear 50;thing b l 0 9 ground 0 0 bear 61;");
        Checks.stand(few, 0, 0, 0, 1, 200, 0);
        Checks.due("23: a few times", few.fit(), 5 + 6);
        Checks.dueAll("24: each", fitOf(few, 2), 5, 6);
        // By 501: 752 is heard as 1500 and needs 14 and 15000 by 20; 751 as 1499 and needs 36 and 14990 by 20.
        RingPlaces slow = pair(14, 36, 491);
        Checks.due("23: more than a thousand times", slow.fit(), 751 + 752);
        Checks.dueAll("24: each of them", fitOf(slow, 2), 751, 752);
    }

    private static void noFit() {
        Document.says(TERMS, "none, if one needs more than 999.");
        // a hears 999000 by 500 of z, which needs 19980 by 20.
        withDead(0, 999, 98, 999);
        withDead(1, 999, 98, -1);
        withDead(0, 999, 97, -1);
        Checks.due("23: ever louder by 1", pair(1, 1, 490).fit(), -1);
        Checks.due("23: ever louder by far", pair(0, 1, 0).fit(), -1);
        RingPlaces r = Checks.ringOf("land l;thing a l 0 9 ground 0 0 bear 1;thing z l 0 9 ground 0 0 loud 999 dead 1 4;thing b l 0 9 bear 0;");
        Checks.stand(r, 0, 0, 0, 1, 98, 0, 2, 0, 0);
        Checks.due("23: one of two", r.fit(), -1);
        r.lift(0);
        Checks.due("23: the other alone", r.fit(), 1);
    }

    private static void fitCalls() {
        Document.says("Promise 23", "FIT: the sum of all loudness;");
        RingPlaces r = Checks.ringOf("land l;thing a l 0 9 ground 0 0 bear 30;thing b l 0 9 bear 500;"
            + "thing z l 0 9 ground 0 0 loud 999 dead 1 4;");
        Checks.due("23: nobody stands", r.fit(), 0);
        Checks.stand(r, 2, 100, 1);
        Checks.due("23: a DEAD one alone", r.fit(), 0);
        Checks.stand(r, 0, 0, 0, 1, 0, 0);
        Checks.due("23: two", r.fit(), 2 + 25);
        Checks.due("23: in an empty RING", new RingPlaces().fit(), 0);
        Document.says("Promise 23", "NONE: none; the STANDING stays.");
        String ahead = Checks.state(r, 3);
        Checks.due("23: as it was", r.fit(), 27);
        Checks.dueText("23: the STANDING stays", Checks.state(r, 3), ahead);
        Checks.stand(r, 2, 97, 0);
        ahead = Checks.state(r, 3);
        Checks.due("23: none", r.fit(), -1);
        Checks.dueText("23: the STANDING stays then, too", Checks.state(r, 3), ahead);
        Checks.due("12: as loud as told", r.reach(2, 0), 2018);
    }

    private static void fitOfCalls() {
        Document.says("Promise 24", "The loudness of THING t by the latest fit() that was not NONE;");
        RingPlaces r = Checks.ringOf("land l;thing a l 0 9 ground 0 0 bear 30;thing b l 0 9 bear 500;"
            + "thing z l 0 9 ground 0 0 loud 999 dead 1 4;thing c l 0 9 bear 60;");
        Checks.due("24: ahead of any", r.fitOf(0), -1);
        Checks.stand(r, 0, 0, 0, 1, 0, 0, 2, 97, 0);
        Checks.due("23: none", r.fit(), -1);
        Checks.due("24: ahead of any that was not NONE", r.fitOf(0), -1);
        Checks.stand(r, 2, 97, 1);
        Checks.due("23: two", r.fit(), 27);
        Checks.dueAll("24: each", fitOf(r, 4), 2, 25, -1, -1);
        Checks.stand(r, 2, 97, 0, 3, 0, 0);
        r.lift(1);
        Checks.due("23: none again", r.fit(), -1);
        Checks.dueAll("24: of the latest that was", fitOf(r, 4), 2, 25, -1, -1);
        r.image(0);
        r.ring();
        Checks.dueAll("24: an empty RING takes nothing back", fitOf(r, 4), 2, 25, -1, -1);
        r.restore(0);
        Checks.dueAll("24: restore takes nothing back", fitOf(r, 4), 2, 25, -1, -1);
        r.lift(0);
        Checks.due("23: c alone", r.fit(), 3);
        Document.says("Promise 24", "NONE: it did not stand or was DEAD, no such one, or ahead of any.");
        Checks.dueAll("24: a and b did not stand, z was DEAD", fitOf(r, 5), -1, -1, -1, 3, -1);
        int[] none = {-1, 15, 16, LEAST, GREATEST};
        for (int t : none) {
            Checks.due("24: fitOf " + t, r.fitOf(t), -1);
        }
        Checks.due("24: ahead of any", new RingPlaces().fitOf(0), -1);
        StringBuilder text = new StringBuilder("land l;");
        for (int t = 0; t < 16; t++) {
            text.append("thing t").append((char) ('a' + t)).append(" l 0 9 bear ").append(20 * t + 20).append(';');
        }
        RingPlaces full = Checks.ringOf(text.toString());
        for (int t = 0; t < 16; t++) {
            full.stand(t, 0, 0);
        }
        Checks.due("23: sixteen", full.fit(), 136);
        Checks.due("24: the last of sixteen", full.fitOf(15), 16);
    }

    // ---- NARROW

    /** h is THING 0 and hears 196 of each other one, or 99 with that one twice as sharp; these do not TOUCH one another. */
    private static RingPlaces hearing(int bear, int others, String narrows) {
        StringBuilder text = new StringBuilder("land l;apart 0;thing h l 0 999 ground 0 39 voice 0 loud 1 bear ").append(bear).append(';');
        for (int k = 0; k < others; k++) {
            text.append("thing ").append((char) ('a' + k)).append(" l 0 999 voice 0 ground ").append(k).append(' ').append(k).append(';');
        }
        RingPlaces r = Checks.ringOf(text + narrows);
        Checks.stand(r, 0, 500, 0);
        for (int k = 0; k < others; k++) {
            Checks.stand(r, k + 1, k % 2 == 0 ? 400 : 600, 0);
        }
        return r;
    }

    private static String narrows(int many, int cost) {
        StringBuilder text = new StringBuilder();
        for (int k = 0; k < many; k++) {
            text.append("narrow ").append((char) ('a' + k)).append(' ').append(cost).append(';');
        }
        return text.toString();
    }

    private static void narrowSets() {
        Document.says(TERMS, "NARROW: the sets of THINGS that stand and have a 'narrow' (6 at most of those, the first)");
        Checks.due("26: one", hearing(99, 1, "narrow a 3;").narrow(), 0b10);
        Checks.due("26: it has no 'narrow'", hearing(99, 1, "narrow h 3;").narrow(), -1);
        Checks.due("26: all six of six", hearing(6 * 99, 6, narrows(6, 1)).narrow(), 0b1111110);
        Checks.due("26: six of seven would do", hearing(6 * 99 + 196, 7, narrows(7, 1)).narrow(), 0b1111110);
        Checks.due("26: seven would do", hearing(7 * 99, 7, narrows(7, 1)).narrow(), -1);
        RingPlaces r = hearing(6 * 99, 7, narrows(7, 1));
        r.lift(3);
        Checks.due("26: one of the first six does not stand", r.narrow(), 0b11110110);
        RingPlaces h = hearing(5 * 99 + 196, 6, narrows(6, 1) + "narrow h 1;");
        Checks.due("26: h is one of the first six, f is not", h.narrow(), 0b0111110);
        Checks.due("26: f would be needed", hearing(6 * 99, 6, narrows(6, 1) + "narrow h 1;").narrow(), -1);
        RingPlaces z = Checks.ringOf("land l;apart 0;thing h l 0 999 ground 0 0 voice 0 loud 1 bear 99;thing z l 0 9 ground 0 0 dead 1 4;"
            + "narrow z 5;");
        Checks.stand(z, 0, 500, 0, 1, 400, 0);
        Checks.due("26: a DEAD one that stands and has a 'narrow'", z.narrow(), 0b10);
        z.lift(1);
        Checks.due("26: it does not stand", z.narrow(), 0);
    }

    /** h hears one of some sharpness, 100 from it. */
    private static void twice(int sharp, int bear, int set) {
        RingPlaces r = Checks.ringOf("land l;apart 0;thing h l 0 999 ground 0 0 voice 0 loud 1 bear " + bear
            + ";thing a l 0 999 ground 0 0 voice 0 bear 9999 sharp " + sharp + ";narrow a 1;");
        Checks.stand(r, 0, 500, 0, 1, 400, 0);
        Checks.due("26: sharp " + sharp + ", 'bear' " + bear, r.narrow(), set);
    }

    private static void narrowTwice() {
        Document.says(TERMS, "that, twice as sharp (99 at most), make the STANDING RIGHT:");
        // 100000 by 510, by 1010; by 4910, by 9810; by 5010, by 9910 and not by 10010, which would be 9.
        twice(5, 196, 0);
        twice(5, 195, 2);
        twice(5, 99, 2);
        twice(5, 98, -1);
        twice(49, 20, 0);
        twice(49, 10, 2);
        twice(49, 9, -1);
        twice(50, 19, 0);
        twice(50, 18, 2);
        twice(50, 10, 2);
        twice(50, 9, -1);
        twice(99, 10, 0);
        twice(99, 9, -1);
        RingPlaces r = hearing(99, 1, "narrow a 1;narrow h 1;");
        Checks.stand(r, 1, 400, 1);
        Checks.due("26: no set gives a VOICE", r.narrow(), -1);
        Checks.stand(r, 1, 400, 0, 0, 1000, 0);
        Checks.due("26: no set mends an ARC", r.narrow(), -1);
    }

    private static void narrowCosts() {
        Document.says(TERMS, "the least COST together;");
        Checks.due("26: a or b", hearing(295, 2, "narrow a 4;narrow b 3;").narrow(), 0b100);
        Checks.due("26: b or a", hearing(295, 2, "narrow a 3;narrow b 4;").narrow(), 0b010);
        Checks.due("26: both", hearing(294, 2, "narrow a 3;narrow b 4;").narrow(), 0b110);
        // c is twice as loud: narrowing it is as good as narrowing a and b.
        String loud = "land l;apart 0;thing a l 0 999 voice 0 ground 0 0;thing b l 0 999 voice 0 ground 1 1;"
            + "thing c l 0 999 voice 0 ground 2 2 loud 200;thing h l 0 999 ground 0 39 voice 0 loud 1 bear 590;";
        Checks.due("26: c for 4, a and b for 5", cheapest(loud + "narrow a 2;narrow b 3;narrow c 4;", 4), 0b100);
        Checks.due("26: c for 6, a and b for 5", cheapest(loud + "narrow a 2;narrow b 3;narrow c 6;", 5), 0b011);
        Checks.due("26: none is needed, though all cost nothing", cheapest(loud.replace("bear 590", "bear 784")
            + "narrow a 0;narrow b 0;narrow c 0;", 0), 0);
        Document.says(TERMS, "of like ones the least set as bits.");
        Checks.due("26: a or b", hearing(295, 2, "narrow a 3;narrow b 3;").narrow(), 0b010);
        Checks.due("26: c for 5, a and b for 5", cheapest(loud + "narrow a 2;narrow b 3;narrow c 5;", 5), 0b011);
        Checks.due("26: c with or without a, which costs nothing", cheapest(loud + "narrow a 0;narrow b 7;narrow c 5;", 5), 0b100);
        Checks.due("26: all cost nothing", cheapest(loud + "narrow a 0;narrow b 0;narrow c 0;", 0), 0b011);
        Checks.due("26: b told ahead of a", hearing(295, 2, "narrow b 3;narrow a 3;").narrow(), 0b010);
    }

    private static int cheapest(String text, int cost) {
        RingPlaces r = Checks.ringOf(text);
        Checks.stand(r, 0, 400, 0, 1, 600, 0, 2, 400, 0, 3, 500, 0);
        int set = r.narrow();
        Checks.due("27: COST", r.narrowCost(), cost);
        return set;
    }

    private static void narrowCalls() {
        Document.says("Promise 26", "NARROW: the set as bits (nothing is changed);");
        RingPlaces r = hearing(295, 2, "narrow a 4;narrow b 3;");
        String ahead = Checks.state(r, 3).replace("cost -1", "cost 3");
        Checks.due("26: b", r.narrow(), 0b100);
        Checks.dueText("26: nothing is changed", Checks.state(r, 3), ahead);
        Checks.due("12: as sharp as told", r.reach(2, 0), 196);
        Checks.due("26: once more", r.narrow(), 0b100);
        r.lift(1);
        Checks.due("26: a does not stand, and none is needed", r.narrow(), 0);
        Checks.stand(r, 1, 401, 0, 2, 600, 1);
        Checks.due("26: none gives a VOICE", r.narrow(), -1);
        r.lift(2);
        Checks.due("26: a alone", r.narrow(), 0);
        RingPlaces other = hearing(150, 3, narrows(3, 1));
        other.lift(2);
        other.lift(3);
        for (int k = 0; k < 6; k++) {
            Checks.due("26: a, time and again", other.narrow(), 0b0010);
        }
        other.lift(1);
        Checks.stand(other, 3, 400, 0);
        Checks.due("26: c in its stead", other.narrow(), 0b1000);
        Checks.due("26: nobody stands", new RingPlaces().narrow(), 0);
        StringBuilder text = new StringBuilder("land l;apart 0;");
        for (int t = 0; t < 15; t++) {
            text.append("thing t").append((char) ('a' + t)).append(" l 0 999 voice 0 ground 0 0 loud 1 bear 99;");
        }
        RingPlaces last = Checks.ringOf(text + "thing x l 0 999 voice 0 ground 0 0;narrow x 1;");
        Checks.stand(last, 0, 500, 0, 15, 400, 0);
        Checks.due("26: the last of sixteen", last.narrow(), 1 << 15);
        Document.says("Promise 26", "NONE: no set does.");
        RingPlaces none = hearing(98, 1, "narrow a 4;");
        ahead = Checks.state(none, 2);
        Checks.due("26: none", none.narrow(), -1);
        Checks.dueText("26: nothing is changed then", Checks.state(none, 2), ahead);
        Checks.due("26: none has a 'narrow'", hearing(98, 1, "").narrow(), -1);
    }

    private static void costCalls() {
        Document.says("Promise 27", "Its COST by the latest narrow() that was not NONE;");
        RingPlaces r = hearing(594, 6, narrows(6, 9999));
        Checks.due("26: all six", r.narrow(), 0b1111110);
        Checks.due("27: as much as can be", r.narrowCost(), 59994);
        Checks.stand(r, 1, 401, 0);
        Checks.due("26: none", r.narrow(), -1);
        Checks.due("27: it stays", r.narrowCost(), 59994);
        r.image(0);
        r.ring();
        Checks.due("27: an empty RING takes nothing back", r.narrowCost(), 59994);
        Checks.due("26: the empty set", r.narrow(), 0);
        Checks.due("27: costs nothing", r.narrowCost(), 0);
        r.restore(0);
        Checks.due("27: restore brings nothing back", r.narrowCost(), 0);
        Document.says("Promise 27", "NONE ahead of any.");
        Checks.due("27: ahead of any", new RingPlaces().narrowCost(), -1);
        RingPlaces none = hearing(98, 1, "narrow a 4;");
        none.narrow();
        Checks.due("27: ahead of any that was not NONE", none.narrowCost(), -1);
    }
}
