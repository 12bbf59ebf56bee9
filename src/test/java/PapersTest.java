/** Promises 29 to 34: PAPERS, RIGHT, BARRED and CLEARED, SHARES, DRIFT and MEETS. */
public final class PapersTest {
    private PapersTest() {
    }

    public static void main(String[] args) {
        goodPapers();
        rightByPaper();
        rightByThere();
        barredPlaces();
        clearedPlaces();
        barredWithoutNeed();
        barredByMiddles();
        sharesOfLands();
        fewestMoves();
        drifts();
        meetings();
        meetingsMissed();
        Checks.finish();
    }

    private static void goodPapers() {
        RingPlaces r = Checks.ringOf("land l;thing a l 0 9;thing b l 0 9;thing c l 0 9;thing d l 0 9;"
            + "paper a 5 50 there 50;paper b 5 50 there 51;paper c 5 50;");
        int[] days = {0, 4, 5, 50, 51, 999};
        int[][] want = {{0, 0, 1, 1, 1, 1}, {0, 0, 1, 1, 0, 0}, {0, 0, 1, 1, 0, 0}, {0, 0, 0, 0, 0, 0}};
        for (int t = 0; t < 4; t++) {
            for (int k = 0; k < 6; k++) {
                Checks.due("29: " + t + " on " + days[k], r.good(t, days[k]), want[t][k]);
            }
        }
        Checks.due("29: no such", r.good(4, 0) + r.good(-1, 0) + r.good(0, -1) + r.good(0, 1000), -4);
    }

    private static void rightByPaper() {
        RingPlaces r = Checks.ringOf("land l;thing a l 0 9 ground 0 0;thing b l 0 9 ground 0 0;thing c l 0 9 ground 0 0;"
            + "thing d l 0 9 ground 5 5;thing e l 0 9 ground 0 0;paper a 5 50;paper b 3 20;paper c 5 50 there 1;paper d 0 99;");
        Checks.due("30: no papers yet", r.right(0, 1, 2), 0);
        Checks.due("30: b's alone", r.right(0, 1, 3), -1);
        Checks.due("30: b's alone, told otherwise", r.right(1, 0, 3), 1);
        Checks.due("30: b's was ahead", r.right(0, 1, 5), -1);
        Checks.due("30: b's is no more GOOD", r.right(0, 1, 21), 1);
        Checks.due("30: of like ones the lesser number", r.right(0, 2, 9), 1);
        Checks.due("30: told otherwise", r.right(2, 0, 9), -1);
        Checks.due("30: c was there, a was not", r.right(0, 2, 51), -1);
        Checks.due("30: no NEED at all", r.right(0, 3, 9), 0);
        Checks.due("30: e has no paper", r.right(4, 0, 9), -1);
        Checks.due("30: one, no such", r.right(0, 0, 9) + r.right(0, 5, 9) + r.right(-1, 0, 9), -6);
        Checks.due("30: no such DAY", r.right(0, 1, -1) + r.right(0, 1, 1000), -4);
        RingPlaces quiet = Checks.ringOf("land l;apart 0;thing a l 0 9 ground 0 0 bear 9999 loud 1;"
            + "thing b l 0 9 ground 0 0 bear 9999 loud 1;paper a 0 9;thing c l 0 9 ground 0 0 loud 999 sharp 1 bear 0;");
        Checks.due("30: a NEED of 0", quiet.right(0, 1, 5), 0);
        Checks.due("30: no NEED is enough", quiet.right(0, 2, 5), 1);
    }

    private static void rightByThere() {
        RingPlaces r = Checks.ringOf("first there;land l;thing a l 0 9 ground 0 0;thing b l 0 9 ground 0 0;"
            + "thing c l 0 9 ground 0 0;paper a 0 9 there 30;paper b 500 509 there 20;paper c 0 9;");
        Checks.due("30: neither was there", r.right(0, 1, 19), 0);
        Checks.due("30: b was there, without a GOOD paper", r.right(0, 1, 20), -1);
        Checks.due("30: b was there ahead", r.right(0, 1, 30), -1);
        Checks.due("30: c never was", r.right(0, 2, 30), 1);
        Checks.due("30: c has a GOOD paper, but no RANK", r.right(2, 0, 5), 0);
    }

    /** NEED of t and any of p, q: 391. */
    private static final String BARS = "land l;thing t l 0 3000 ground 0 0;thing p l 500 701 ground 0 0;"
        + "thing q l 3500 100 ground 0 0;place 209;place 210;place 990;place 991;place 3100;place 0;";

    private static void barredPlaces() {
        RingPlaces r = Checks.ringOf(BARS + "paper t 9 99;paper p 5 99 there 50;paper q 9 99;");
        Checks.due("31: nobody has a paper", r.barred(0, 4, 0), 0);
        // The middle of p's ARC is 600: 209 and 991 are 391 from it, 210 and 990 are less.
        Checks.due("31: p ahead of t", r.barred(0, 5, 0), 0b000110);
        Checks.due("31: q has no RIGHT over t", r.barred(0, 49, 0), 0b000110);
        Checks.due("31: p is there", r.barred(0, 50, 0), 0);
        Checks.due("31: no such", r.barred(3, 5, 0) + r.barred(-1, 5, 0) + r.barred(0, -1, 0) + r.barred(0, 1000, 0)
            + r.barred(0, 5, 2) + r.barred(0, 5, -1), -6);
        RingPlaces s = Checks.ringOf(BARS + "paper q 0 99;");
        // The middle of q's ARC is 0: what is less than 391 from it in t's ARC.
        Checks.due("31: round over 0", s.barred(0, 5, 0), 0b100011);
        Checks.due("31: q bars nothing for itself", s.barred(2, 5, 0), 0);
        Checks.due("31: not GOOD any more", s.barred(0, 100, 0), 0);
    }

    private static void clearedPlaces() {
        RingPlaces r = Checks.ringOf(BARS + "paper p 5 99 there 50;paper q 5 99;");
        Checks.due("31: both bar", r.barred(0, 5, 0), 0b100111);
        Checks.due("31: what p bars is not CLEARED", r.barred(0, 5, 1), 0b100001);
        Checks.due("31: p is there", r.barred(0, 50, 0), 0b100011);
        Checks.due("31: all are CLEARED then", r.barred(0, 50, 1), 0b100011);
        Checks.due("31: ahead of the papers", r.barred(0, 4, 1), 0);
    }

    private static void barredWithoutNeed() {
        RingPlaces r = Checks.ringOf("land l;thing t l 0 999 ground 0 0;thing p l 0 9 ground 0 0 loud 999 sharp 1 bear 0;"
            + "paper p 0 9;place 999;place 1000;place 0;");
        Checks.due("16: no NEED", r.need(0, 1), -1);
        Checks.due("31: all in its ARC", r.barred(0, 3, 0), 0b101);
        Checks.due("31: all CLEARED", r.barred(0, 3, 1), 0b101);
        RingPlaces there = Checks.ringOf("first there;land l;thing t l 0 999 ground 0 0;thing p l 0 9 ground 0 0;"
            + "paper p 0 9 there 5;place 0;");
        Checks.due("31: no RANK ahead of being there", there.barred(0, 4, 0), 0);
        Checks.due("31: nothing barred once there", there.barred(0, 5, 0), 0);
    }

    private static void barredByMiddles() {
        RingPlaces r = Checks.ringOf("land l;apart 1;thing t l 0 3599 ground 0 0 bear 9999 loud 1;"
            + "thing p l 3599 2 ground 0 0 bear 9999 loud 1;paper p 0 9;place 0;place 1;place 3599;");
        Checks.due("31: NEED 1, the middle of 3599 to 2 is 0", r.barred(0, 3, 0), 0b001);
        RingPlaces s = Checks.ringOf("land l;apart 1;thing p l 2 0 ground 0 0 bear 9999 loud 1;"
            + "thing t l 0 3599 ground 0 0 bear 9999 loud 1;paper p 0 9 there 8;place 1800;place 1801;place 1;");
        Checks.due("31: by the first THING, the middle of 2 to 0 is 1801", s.barred(1, 3, 0), 0b010);
        Checks.due("31: not CLEARED", s.barred(1, 3, 1), 0);
    }

    private static int[] shares(RingPlaces r) {
        return new int[] {r.shares(0), r.shares(1)};
    }

    private static void sharesOfLands() {
        RingPlaces r = Checks.ringOf("land k;land l;land m;land n;thing a k 0 9;thing b k 10 19;thing c l 0 9;"
            + "thing z m 0 3599 dead 1 4;place 5;place 15;place 25;");
        Checks.dueAll("32: k by b, l by c", shares(r), 2, 2);
        r.stand(0, 5, 0);
        Checks.dueAll("32: a lies where c must", shares(r), 2, 2);
        r.stand(2, 5, 3);
        Checks.dueAll("32: c lies there", shares(r), 2, 1);
        r.stand(1, 15, 3);
        Checks.dueAll("32: b, too", shares(r), 2, 0);
        Checks.due("32: another what", r.shares(2) + r.shares(-1) + r.shares(Integer.MAX_VALUE), -3);
        Checks.dueAll("32: without PLACES", shares(Checks.ringOf("land k;thing a k 0 9;")), 0, 0);
        Checks.dueAll("32: one PLACE for two", shares(Checks.ringOf("land k;land l;thing a k 0 9;thing b l 0 9;place 0;")), 1, 1);
        RingPlaces many = Checks.ringOf("land a;land b;land c;land d;land e;land f;land g;land h;"
            + "thing ta a 0 0;thing tb b 0 1;thing tc c 1 2;thing td d 2 3;thing te e 3 4;thing tf f 4 5;"
            + "thing tg g 0 3599;thing th h 3599 0;place 0;place 1;place 2;place 3;place 4;place 5;");
        Checks.dueAll("32: six PLACES for eight", shares(many), 6, 6);
    }

    private static void fewestMoves() {
        RingPlaces r = Checks.ringOf("land k;land l;thing a k 0 9;thing b l 0 19;place 5;place 15;");
        r.stand(1, 5, 0);
        Checks.dueAll("32: two LANDS ahead of fewer moves", shares(r), 2, 2);
        r.stand(0, 5, 1);
        Checks.dueAll("32: a stays, b moves", shares(r), 2, 1);
        RingPlaces one = Checks.ringOf("land k;thing a k 0 9;place 5;place 7;");
        one.stand(0, 7, 0);
        Checks.dueAll("32: the second of two", shares(one), 1, 0);
        one.stand(0, 5, 0);
        Checks.dueAll("32: the first of two", shares(one), 1, 0);
        RingPlaces out = Checks.ringOf("land k;thing a k 0 9;place 5;place 15;");
        out.stand(0, 15, 0);
        Checks.dueAll("32: a lies outside of its ARC", shares(out), 1, 1);
    }

    private static void drifts() {
        RingPlaces r = Checks.ringOf("land l;thing a l 0 9;thing z l 0 9 dead 40 100;thing y l 0 9 dead 300 7;thing x l 0 9 dead 0 4;");
        int[] days = {0, 1, 25, 26, 50, 75, 76, 99, 100, 999};
        int[] want = {10, 11, 50, 49, 10, 3570, 3571, 8, 10, 8};
        for (int k = 0; k < days.length; k++) {
            Checks.due("33: on " + days[k], Checks.drift(r, 1, 10, days[k]), want[k]);
        }
        Checks.due("33: 1200 times 2 by 7 is 342", Checks.drift(r, 2, 3500, 9), 3500 + 600 - 342 - 3600);
        Checks.due("33: over 3599", Checks.drift(r, 2, 3500, 1), 71);
        Checks.due("33: AMP 0", Checks.drift(r, 3, 7, 3), 7);
        Checks.due("33: not DEAD", Checks.drift(r, 0, 0, 0), Checks.THROWS);
        Checks.due("33: no such", Checks.drift(r, 4, 0, 0), Checks.THROWS);
        Checks.due("33: no such, below", Checks.drift(r, -1, 0, 0), Checks.THROWS);
        Checks.due("33: degree 3600", Checks.drift(r, 1, 3600, 0), Checks.THROWS);
        Checks.due("33: degree -1", Checks.drift(r, 1, -1, 0), Checks.THROWS);
        Checks.due("33: day 1000", Checks.drift(r, 1, 0, 1000), Checks.THROWS);
        Checks.due("33: day -1", Checks.drift(r, 1, 0, -1), Checks.THROWS);
    }

    private static final String DRIFTING = "land l;apart 20;thing a l 0 9 ground 3 4;thing b l 0 9 ground 9 9;"
        + "thing z l 0 9 ground 0 3 dead 40 100;thing y l 0 9 ground 0 9 dead 1 4;";

    private static void meetings() {
        RingPlaces r = Checks.ringOf(DRIFTING);
        Checks.due("34: nobody stands", r.meets(2, 100, 0, 0), -1);
        r.stand(0, 130, 1);
        // From 100 it must come to 111: s is 11 on DAY 7 (160 times 7 by 100, cut).
        Checks.due("34: less than 20 from 130", r.meets(2, 100, 1, 0), 7);
        Checks.due("34: from that DAY on", r.meets(2, 100, 1, 7), 7);
        Checks.due("34: it is there still", r.meets(2, 100, 1, 43), 43);
        Checks.due("34: back at 110", r.meets(2, 100, 1, 44), 107);
        Checks.due("34: the last round", r.meets(2, 100, 1, 944), -1);
        Checks.due("34: other VOICE", r.meets(2, 100, 0, 0), -1);
        Checks.due("34: on the last DAY", r.meets(2, 130, 1, 999), 999);
        r.stand(0, 3590, 1);
        Checks.due("34: round over 0", r.meets(2, 9, 1, 0), 0);
        Checks.due("34: 20 are enough", r.meets(2, 10, 1, 0), 51);
    }

    private static void meetingsMissed() {
        RingPlaces r = Checks.ringOf(DRIFTING);
        r.stand(1, 100, 0);
        Checks.due("34: no CELL in common", r.meets(2, 100, 0, 0), -1);
        r.stand(3, 100, 0);
        Checks.due("34: a DEAD one is not met", r.meets(2, 100, 0, 0), -1);
        Checks.due("34: y meets b", r.meets(3, 100, 0, 0), 0);
        Checks.due("34: not DEAD", r.meets(0, 0, 0, 0), -2);
        Checks.due("34: no such", r.meets(4, 0, 0, 0) + r.meets(-1, 0, 0, 0), -4);
        Checks.due("34: no such degree", r.meets(2, 3600, 0, 0) + r.meets(2, -1, 0, 0), -4);
        Checks.due("34: no such VOICE", r.meets(2, 0, 4, 0) + r.meets(2, 0, -1, 0), -4);
        Checks.due("34: no such DAY", r.meets(2, 0, 0, 1000) + r.meets(2, 0, 0, -1), -4);
    }
}
