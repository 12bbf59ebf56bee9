/** Promises 9 to 15, 28, 35 and 36: who stands where, what is heard, WRONG, SALE, and what is kept. */
public final class StandingTest {
    private static final String FOUR = "land l;apart 30;thing a l 100 500 ground 0 5 voice 0 voice 1;"
        + "thing b l 200 600 ground 5 9 voice 0 bear 100;thing c l 3500 50 ground 20 25 voice 0 bear 9999;"
        + "thing z l 0 3599 ground 0 39 voice 0 loud 999 sharp 1 dead 40 100;";

    private StandingTest() {
    }

    public static void main(String[] args) {
        standAndLift();
        reaches();
        hearing();
        wrongs();
        leastWrong();
        judging();
        sales();
        images();
        Checks.finish();
    }

    private static void standAndLift() {
        RingPlaces r = Checks.ringOf(FOUR);
        Checks.due("11: nobody stands", r.stands(0, 0), -1);
        Checks.due("9: stand", r.stand(0, 0, 0), true);
        Checks.due("9: outside of its ARC, VOICE not its own", r.stand(0, 3599, 3), true);
        Checks.due("9: degree 3600", r.stand(0, 3600, 0), false);
        Checks.due("9: degree -1", r.stand(0, -1, 0), false);
        Checks.due("9: voice 4", r.stand(0, 0, 4), false);
        Checks.due("9: voice -1", r.stand(0, 0, -1), false);
        Checks.due("9: thing 4", r.stand(4, 0, 0), false);
        Checks.due("9: thing -1", r.stand(-1, 0, 0), false);
        Checks.due("9: a DEAD one", r.stand(3, 7, 1), true);
        Checks.dueAll("11: as put last", Checks.standings(r, 0, 1, 3), 3599, 3, -1, -1, 7, 1);
        Checks.dueAll("11: no such", new int[] {r.stands(0, 2), r.stands(0, -1), r.stands(4, 0), r.stands(-1, 1)},
            -1, -1, -1, -1);
        Checks.due("10: lift", r.lift(0), true);
        Checks.due("10: again", r.lift(0), false);
        Checks.due("10: never stood", r.lift(1), false);
        Checks.due("10: no such", r.lift(4) || r.lift(-1) || r.lift(Integer.MAX_VALUE), false);
        Checks.due("10: lifted", r.stands(0, 1), -1);
        Checks.due("10: one is left", r.count(3), 1);
    }

    private static void reaches() {
        RingPlaces r = Checks.ringOf(FOUR);
        r.stand(0, 300, 0);
        r.stand(1, 400, 0);
        Checks.due("12: 100000 by 510, cut", r.reach(0, 1), 196);
        Checks.due("12: not standing", r.reach(0, 2), -1);
        Checks.due("12: not standing either", r.reach(2, 0), -1);
        Checks.due("12: one", r.reach(0, 0), -1);
        Checks.due("12: no such", r.reach(0, 4) + r.reach(-1, 0), -2);
        r.stand(2, 400, 0);
        Checks.due("12: no CELL in common", r.reach(1, 2), 0);
        r.stand(1, 400, 1);
        Checks.due("12: other VOICE", r.reach(0, 1), 0);
        r.stand(2, 3590, 0);
        r.stand(3, 10, 0);
        Checks.due("12: round over 0, loud", r.reach(3, 2), 33300);
        Checks.due("12: round over 0, back", r.reach(2, 3), 909);
        r.stand(2, 10, 0);
        Checks.due("12: at one degree", r.reach(3, 2), 99900);
        r.stand(2, 1810, 0);
        Checks.due("12: at the far side", r.reach(3, 2), 551);
        r.stand(2, 1811, 0);
        Checks.due("12: beyond the far side", r.reach(3, 2), 552);
    }

    private static void hearing() {
        RingPlaces r = Checks.ringOf(FOUR);
        Checks.due("13: not standing", r.heard(0), -1);
        r.stand(0, 300, 0);
        Checks.due("13: alone", r.heard(0), 0);
        r.stand(1, 400, 0);
        r.stand(3, 200, 0);
        Checks.due("13: two others", r.heard(0), 196 + 9081);
        Checks.due("13: a DEAD one hears, too", r.heard(3), 196 + 99);
        r.stand(2, 300, 0);
        Checks.due("13: no CELL in common", r.heard(0), 196 + 9081);
        r.lift(3);
        Checks.due("13: one less", r.heard(0), 196);
        r.stand(1, 400, 2);
        Checks.due("13: none", r.heard(0), 0);
        Checks.due("13: no such", r.heard(4) + r.heard(-1), -2);
    }

    private static void wrongs() {
        RingPlaces r = Checks.ringOf(FOUR);
        Checks.due("14: not standing", r.wrong(0), -1);
        Checks.due("14: no such", r.wrong(4) + r.wrong(-1), -2);
        int[] degrees = {99, 100, 500, 501};
        int[] wants = {1, 0, 0, 1};
        for (int k = 0; k < 4; k++) {
            r.stand(0, degrees[k], 1);
            Checks.due("14: ARC 100 to 500 at " + degrees[k], r.wrong(0), wants[k]);
        }
        int[] over = {3499, 3500, 0, 50, 51, 1800};
        int[] wantsOver = {1, 0, 0, 0, 1, 1};
        for (int k = 0; k < 6; k++) {
            r.stand(2, over[k], 0);
            Checks.due("14: ARC 3500 to 50 at " + over[k], r.wrong(2), wantsOver[k]);
        }
        r.stand(0, 300, 2);
        Checks.due("14: not its VOICE", r.wrong(0), 2);
        r.stand(0, 300, 0);
        r.stand(3, 329, 0);
        Checks.due("14: a DEAD one 29 apart", r.wrong(0), 3);
        Checks.due("14: a DEAD one is never WRONG", r.wrong(3), -1);
        r.stand(3, 330, 0);
        Checks.due("14: 30 apart, but drowned", r.wrong(0), 4);
        r.lift(3);
        r.stand(1, 590, 0);
        Checks.due("14: hears 68, bears 50", r.wrong(0), 4);
        Checks.due("14: hears 68, bears 100", r.wrong(1), 0);
        RingPlaces s = Checks.ringOf("land l;apart 0;thing a l 0 99 ground 0 0 voice 0 bear 1666;"
            + "thing b l 0 99 ground 0 0 voice 0 bear 1665;thing c l 7 7 ground 0 0 voice 0;");
        s.stand(0, 20, 0);
        s.stand(1, 30, 0);
        Checks.due("14: hears just what it bears", s.wrong(0), 0);
        Checks.due("14: hears one more", s.wrong(1), 4);
        s.stand(2, 7, 1);
        Checks.due("14: an ARC of one degree", s.wrong(2), 2);
        s.stand(2, 8, 0);
        Checks.due("14: beside it", s.wrong(2), 1);
        s.stand(0, 30, 0);
        Checks.due("14: 'apart' 0: never too near", s.wrong(1), 4);
    }

    private static void leastWrong() {
        RingPlaces r = Checks.ringOf("land l;thing a l 5 9 ground 0 0 voice 0 bear 0;"
            + "thing b l 0 99 ground 0 0 voice 0 voice 1 bear 0;");
        r.stand(0, 0, 1);
        r.stand(1, 0, 1);
        Checks.due("14: the ARC ahead of all", r.wrong(0), 1);
        r.stand(0, 5, 1);
        Checks.due("14: the VOICE ahead of the near one", r.wrong(0), 2);
        r.stand(0, 5, 0);
        r.stand(1, 5, 0);
        Checks.due("14: the near one ahead of drowning", r.wrong(0), 3);
    }

    private static void judging() {
        RingPlaces r = Checks.ringOf(FOUR);
        Checks.due("15: nobody stands", r.judge(), -1);
        r.stand(3, 300, 0);
        Checks.due("15: a DEAD one alone", r.judge(), -1);
        r.stand(2, 60, 0);
        Checks.due("15: the third", r.judge(), 2);
        r.stand(1, 300, 0);
        Checks.due("15: the second is ahead", r.judge(), 1);
        r.lift(3);
        r.lift(2);
        Checks.due("15: RIGHT again", r.judge(), -1);
    }

    private static void sales() {
        RingPlaces r = Checks.ringOf("land l;apart 5;thing a l 0 500 ground 0 0 voice 0 bear 500;"
            + "thing b l 0 500 ground 1 1 voice 1 bear 500;thing c l 0 500 ground 0 1 voice 0 bear 500 loud 50;"
            + "thing z l 0 3599 ground 0 0 voice 0 loud 1 dead 5 9;thing d l 200 300 ground 5 5 voice 2;");
        Checks.due("28: nobody stands", r.sell(0, 1), -1);
        r.stand(0, 100, 0);
        r.stand(1, 400, 1);
        Checks.due("28: one", r.sell(0, 0), -1);
        Checks.due("28: no such", r.sell(0, 5) + r.sell(-1, 0), -2);
        Checks.due("28: one does not stand", r.sell(0, 2) + r.sell(2, 0), -2);
        Checks.due("28: sold", r.sell(0, 1), 1);
        Checks.dueAll("28: degrees change, VOICES stay", Checks.standings(r, 0, 1), 400, 0, 100, 1);
        r.stand(2, 300, 0);
        Checks.due("28: nearer to c: it would hear less, and is let", r.heard(2), 196);
        Checks.due("28: c hears less then", r.sell(0, 1), 1);
        Checks.due("28: c hears 99", r.heard(2), 99);
        Checks.due("28: back, c would hear more", r.sell(1, 0), 0);
        Checks.dueAll("28: nothing has changed", Checks.standings(r, 0, 1), 100, 0, 400, 1);
        r.lift(2);
        r.stand(4, 250, 2);
        Checks.due("28: d would leave its ARC", r.sell(4, 0), 0);
        r.stand(4, 0, 2);
        Checks.due("28: another one is WRONG", r.sell(0, 1), 0);
        r.lift(4);
        r.stand(3, 350, 0);
        Checks.due("28: a DEAD one hears more", r.sell(0, 1), 0);
        Checks.due("28: a DEAD one may be sold", r.sell(3, 1), 1);
        Checks.dueAll("28: it lies there", Checks.standings(r, 1, 3), 350, 1, 400, 0);
        r.lift(3);
        r.stand(2, 400, 0);
        Checks.due("28: the first one hears more", r.sell(2, 1), 0);
        Checks.due("28: the first one hears less", r.stand(1, 450, 1) && r.sell(2, 1) == 1, true);
    }

    private static void images() {
        RingPlaces r = Checks.ringOf(FOUR);
        Checks.due("36: nothing is kept", r.restore(0), false);
        Checks.due("35: no such", r.image(2) || r.image(-1) || r.image(Integer.MAX_VALUE), false);
        Checks.due("36: no such", r.restore(2) || r.restore(-1) || r.restore(Integer.MIN_VALUE), false);
        r.stand(0, 300, 0);
        r.stand(1, 400, 0);
        Checks.due("35: kept", r.image(1), true);
        Checks.due("36: nothing in the other", r.restore(0), false);
        Checks.read(r, "land q;place 7;apart 1;");
        Checks.due("35: kept in the other", r.image(0), true);
        Checks.read(r, "land q;land q;");
        r.feed(0, 0, 0, 0, 0);
        Checks.due("36: back", r.restore(1), true);
        Checks.due("36: the RING", r.count(1), 4);
        Checks.due("36: 'apart'", r.count(4), 30);
        Checks.dueAll("36: the STANDING", Checks.standings(r, 0, 1, 2), 300, 0, 400, 0, -1, -1);
        Checks.due("36: what it hears", r.heard(0), 196);
        Checks.due("36: the tape stays", r.count(5), 20);
        Checks.due("36: the latest FAULT stays", r.fault(), 3);
        r.lift(0);
        Checks.due("36: once more", r.restore(1), true);
        Checks.due("36: as kept", r.stands(0, 0), 300);
        Checks.due("36: the other", r.restore(0), true);
        Checks.due("36: its PLACE", r.place(0), 7);
        Checks.due("36: its THINGS", r.count(1), 0);
        Checks.due("35: kept anew", r.image(1), true);
        r.restore(1);
        Checks.due("36: the latest kept", r.count(1), 0);
    }
}
