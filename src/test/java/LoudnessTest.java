/** Promises 23, 24, 26 and 27: FIT and NARROW. */
public final class LoudnessTest {
    private LoudnessTest() {
    }

    public static void main(String[] args) {
        fits();
        fitsFromOne();
        fitsWithDead();
        noFit();
        fitOfStaysWithAnotherRing();
        narrows();
        narrowsOfLikeCost();
        narrowsFirstSix();
        Checks.finish();
    }

    private static int[] fitOf(RingPlaces r, int many) {
        int[] all = new int[many];
        for (int t = 0; t < many; t++) {
            all[t] = r.fitOf(t);
        }
        return all;
    }

    private static void fits() {
        RingPlaces r = Checks.ringOf("land l;thing a l 0 9 ground 0 0 bear 50;thing b l 0 9 ground 0 0 bear 61;"
            + "thing c l 0 9 bear 0;thing d l 0 9 bear 9999;");
        Checks.due("24: ahead of any", r.fitOf(0), -1);
        Checks.due("23: nobody stands", r.fit(), 0);
        Checks.due("24: did not stand", r.fitOf(0), -1);
        r.stand(0, 0, 0);
        r.stand(2, 0, 0);
        r.stand(3, 0, 0);
        Checks.due("23: by 'bear' alone", r.fit(), 3 + 1 + 500);
        Checks.dueAll("24: each", fitOf(r, 4), 3, -1, 1, 500);
        r.stand(1, 40, 0);
        // By 210: what each needs grows by 10000 / 210 / 20, more than it grew by, each time.
        Checks.due("23: heard as told", r.heard(1), 476);
        Checks.due("23: two that make one another ever louder", r.fit(), -1);
        Checks.due("23: heard as told still", r.heard(1), 476);
        Checks.dueAll("24: of the latest that was", fitOf(r, 4), 3, -1, 1, 500);
        r.stand(1, 200, 0);
        // By 1010: 1 1 hear 0 0, 3 4 hear 3 2, 4 5 hear 4 3, 5 5 hear 4 4, 5 6 hear 5 4 and need 5 6.
        Checks.due("23: by what was ahead", r.fit(), 5 + 6 + 1 + 500);
        Checks.dueAll("24: now", fitOf(r, 6), 5, 6, 1, 500, -1, -1);
        Checks.due("24: no such", r.fitOf(-1) + r.fitOf(16) + r.fitOf(Integer.MAX_VALUE), -3);
        r.lift(0);
        Checks.due("24: as it was then", r.fitOf(0), 5);
    }

    private static void fitsFromOne() {
        RingPlaces r = Checks.ringOf("land l;thing a l 0 9 ground 0 0 bear 0;thing b l 0 9 ground 0 0 bear 0;");
        r.stand(0, 0, 0);
        r.stand(1, 78, 0);
        // By 400: 1 is heard as 2 and needs 1; from 2 on it would be 5, and ever more.
        Checks.due("23: the least, from 1 each", r.fit(), 2);
    }

    private static void fitsWithDead() {
        RingPlaces r = Checks.ringOf("land l;thing a l 0 9 ground 0 0 bear 0;thing z l 0 9 ground 0 0 loud 200 dead 1 4;");
        r.stand(0, 0, 0);
        r.stand(1, 100, 0);
        Checks.due("23: a hears 392 of the DEAD one", r.fit(), 196);
        Checks.dueAll("24: none for the DEAD one", fitOf(r, 2), 196, -1);
        r.stand(1, 100, 1);
        Checks.due("23: other VOICES", r.fit(), 1);
    }

    private static void noFit() {
        RingPlaces r = Checks.ringOf("land l;thing a l 0 9 ground 0 0 bear 0 voice 0;thing z l 0 9 ground 0 0 loud 999 sharp 5"
            + " dead 1 4;");
        r.stand(0, 0, 0);
        r.stand(1, 98, 0);
        Checks.due("23: hears 1998 and needs 999", r.fit(), 999);
        r.stand(1, 97, 0);
        Checks.due("23: hears 2018 and needs 1009", r.fit(), -1);
        Checks.due("24: of the latest that was", r.fitOf(0), 999);
        Checks.due("23: the STANDING stays", r.stands(1, 0), 97);
    }

    private static void fitOfStaysWithAnotherRing() {
        RingPlaces r = Checks.ringOf("land l;thing a l 0 9 bear 40;thing b l 0 9;thing c l 0 9 bear 80;");
        r.image(0);
        r.stand(0, 0, 0);
        r.stand(2, 0, 0);
        Checks.due("23: two stand", r.fit(), 2 + 4);
        Checks.due("4: an empty RING", Checks.read(r, ""), 0);
        Checks.dueAll("24: an empty RING takes nothing back", fitOf(r, 4), 2, -1, 4, -1);
        Checks.due("4: one LINE has a FAULT", Checks.read(r, "land l;thing") < 0, true);
        Checks.dueAll("24: a FAULT takes nothing back", fitOf(r, 4), 2, -1, 4, -1);
        Checks.due("4: a RING of five", Checks.read(r, "land l;thing a l 0 9;thing b l 0 9;thing c l 0 9;thing d l 0 9;"
            + "thing e l 0 9;"), 6);
        r.stand(4, 0, 0);
        Checks.dueAll("24: another RING takes nothing back", fitOf(r, 5), 2, -1, 4, -1, -1);
        r.restore(0);
        Checks.dueAll("24: restore takes nothing back", fitOf(r, 5), 2, -1, 4, -1, -1);
        Checks.due("23: nobody stands there", r.fit(), 0);
        Checks.dueAll("24: a FIT of none is the latest", fitOf(r, 5), -1, -1, -1, -1, -1);
    }

    private static final String NARROW = "land l;thing a l 0 999 ground 0 0 voice 0 bear 100 loud 1;"
        + "thing b l 0 999 ground 0 0 voice 0 bear 9999;thing c l 0 999 ground 0 0 voice 0 bear 9999;apart 0;";

    private static void narrows() {
        RingPlaces r = Checks.ringOf(NARROW + "narrow b 7;narrow c 5;");
        Checks.due("27: ahead of any", r.narrowCost(), -1);
        r.stand(0, 100, 0);
        r.stand(1, 200, 0);
        Checks.due("26: b: 196, or 99", r.narrow(), 2);
        Checks.due("27: its COST", r.narrowCost(), 7);
        Checks.due("26: nothing is changed", r.thing(1, 5), 5);
        Checks.due("26: nothing is heard otherwise", r.heard(0), 196);
        r.stand(2, 300, 0);
        Checks.due("26: 196 and 99, or 99 and 49: too much", r.narrow(), -1);
        Checks.due("27: of the latest that was", r.narrowCost(), 7);
        r.stand(2, 900, 0);
        Checks.due("26: 99 and 24, or 99 and 12", r.narrow(), -1);
        r.lift(1);
        Checks.due("26: RIGHT as it is", r.narrow(), 0);
        Checks.due("27: for nothing", r.narrowCost(), 0);
        RingPlaces sharp = Checks.ringOf("land l;thing a l 0 999 ground 0 0 voice 0 bear 10 loud 1;apart 0;"
            + "thing b l 0 999 ground 0 0 voice 0 bear 9999 sharp 60;narrow b 0;thing c l 0 9;narrow c 3;");
        sharp.stand(0, 100, 0);
        sharp.stand(1, 200, 0);
        Checks.due("26: 16, or 10 by 99 at most", sharp.narrow(), 2);
        Checks.due("27: COST 0", sharp.narrowCost(), 0);
        sharp.stand(1, 199, 0);
        Checks.due("26: 10 still", sharp.narrow(), 2);
        sharp.stand(1, 191, 0);
        Checks.due("26: 11", sharp.narrow(), -1);
        sharp.stand(2, 20, 0);
        Checks.due("26: no set mends an ARC", sharp.narrow(), -1);
        RingPlaces first = Checks.ringOf("land l;thing b l 0 999 ground 0 0 voice 0 bear 9999;narrow b 9999;apart 0;"
            + "thing z l 0 999 ground 0 0 loud 1 dead 1 4;thing a l 0 999 ground 0 0 voice 0 bear 100 loud 1;");
        first.stand(0, 200, 0);
        first.stand(2, 100, 0);
        Checks.due("26: the first THING", first.narrow(), 1);
        Checks.due("27: COST 9999", first.narrowCost(), 9999);
        first.image(0);
        Checks.read(first, "");
        Checks.due("27: another RING takes nothing back", first.narrowCost(), 9999);
        Checks.due("26: the empty set", first.narrow(), 0);
        first.restore(0);
        Checks.due("27: restore brings nothing back", first.narrowCost(), 0);
    }

    private static void narrowsOfLikeCost() {
        RingPlaces r = Checks.ringOf(NARROW.replace("bear 100", "bear 300") + "narrow a 0;narrow b 5;narrow c 5;");
        r.stand(0, 100, 0);
        r.stand(1, 200, 0);
        r.stand(2, 0, 0);
        Checks.due("26: either of two", r.narrow(), 2);
        Checks.due("27: of like COST", r.narrowCost(), 5);
        RingPlaces s = Checks.ringOf(NARROW.replace("bear 100", "bear 300") + "narrow a 0;narrow b 5;narrow c 4;");
        s.stand(0, 100, 0);
        s.stand(1, 200, 0);
        s.stand(2, 0, 0);
        Checks.due("26: the cheaper one", s.narrow(), 4);
        Checks.due("27: its COST", s.narrowCost(), 4);
        s.stand(2, 20, 0);
        Checks.due("26: 196 and 243: c halved is 123, b halved 99", s.narrow(), 6);
        Checks.due("27: both", s.narrowCost(), 9);
    }

    private static void narrowsFirstSix() {
        StringBuilder text = new StringBuilder("land l;apart 0;thing a l 0 999 ground 0 0 voice 0 bear 100 loud 1;");
        for (int k = 0; k < 7; k++) {
            text.append("thing t").append((char) ('a' + k)).append(" l 0 999 voice 0 ground 0 0 bear 9999 loud ");
            text.append(k == 6 ? 100 : 1).append(";narrow t").append((char) ('a' + k)).append(" 1;");
        }
        RingPlaces r = Checks.ringOf(text.toString());
        r.stand(0, 100, 0);
        r.stand(7, 200, 0);
        Checks.due("26: the last one stands among less than six", r.narrow(), 1 << 7);
        for (int t = 1; t < 6; t++) {
            r.stand(t, 990, 0);
        }
        Checks.due("26: the others are not heard", r.heard(0), 196);
        Checks.due("26: it is the sixth", r.narrow(), 1 << 7);
        r.stand(6, 990, 0);
        Checks.due("26: the seventh is not asked", r.narrow(), -1);
    }
}
