/** A test for each sentence of Terms (2) up to RIGHT, of SALE, and of promises 9 to 15, 28, 35 and 36. */
final class StandingSentences {
    private static final String TERMS = "Terms";
    /** Two that are as loud and as blunt as can be, so that each tenth between them is heard. */
    private static final String LOUD = "land l;apart 0;thing a l 0 3599 ground 0 0 voice 0 loud 999 sharp 1 bear 9999;"
        + "thing b l 0 3599 ground 0 0 voice 0 loud 999 sharp 1 bear 9999;";
    /** a and b TOUCH with one VOICE, c TOUCHES none of them, z is DEAD and TOUCHES all. */
    private static final String FOUR = "land l;apart 30;thing a l 100 500 ground 0 5 voice 0 voice 1;"
        + "thing b l 200 600 ground 5 9 voice 0 bear 100;thing c l 3500 50 ground 20 25 voice 0 bear 9999;"
        + "thing z l 0 3599 ground 0 39 voice 0 loud 999 sharp 1 dead 40 100;";
    private static final int LEAST = Integer.MIN_VALUE;
    private static final int GREATEST = Integer.MAX_VALUE;

    private StandingSentences() {
    }

    static void all() {
        degreesAndVoices();
        apart();
        touch();
        reach();
        heard();
        wrongByItself();
        wrongByOthers();
        right();
        standCalls();
        hearCalls();
        judgeCalls();
        sale();
        saleMindsOthers();
        sellCalls();
        images();
        restores();
        newRing();
        throwing();
    }

    private static void degreesAndVoices() {
        Document.says(TERMS, "A STANDING: some THINGS stand, each at a degree (0 to 3599) with a VOICE (0 to 3).");
        RingPlaces r = Checks.ringOf(FOUR);
        Checks.due("9: least", r.stand(0, 0, 0), true);
        Checks.due("9: greatest", r.stand(0, 3599, 3), true);
        Checks.due("9: degree 3600", r.stand(0, 3600, 3), false);
        Checks.due("9: degree -1", r.stand(0, -1, 3), false);
        Checks.due("9: VOICE 4", r.stand(0, 0, 4), false);
        Checks.due("9: VOICE -1", r.stand(0, 0, -1), false);
        Checks.dueAll("11: as at last", Checks.standings(r, 0, 1), 3599, 3, -1, -1);
    }

    /** The REACH from one degree to another of the first of two loud ones: 999000 by 10 and how far they are APART. */
    private static void gap(int x, int y, int reach) {
        RingPlaces r = Checks.ringOf(LOUD);
        Checks.stand(r, 0, x, 0, 1, y, 0);
        Checks.due("12: from " + x + " to " + y, r.reach(0, 1), reach);
        Checks.due("12: from " + y + " to " + x, r.reach(1, 0), reach);
    }

    private static void apart() {
        Document.says(TERMS, "APART: how far two degrees are from one another, the shorter way round.");
        gap(0, 0, 99900);
        gap(3599, 3599, 99900);
        gap(0, 1, 90818);
        gap(3599, 0, 90818);
        gap(3599, 1, 83250);
        gap(3590, 10, 33300);
        gap(0, 1799, 552);
        gap(0, 1800, 551);
        gap(0, 1801, 552);
        gap(1799, 3599, 551);
        gap(1798, 3599, 552);
        gap(900, 2701, 552);
        gap(2700, 900, 551);
    }

    private static void touches(String cellsOfA, String cellsOfB, boolean touch) {
        RingPlaces r = Checks.ringOf("land l;thing a l 0 9 " + cellsOfA + ";thing b l 0 9 " + cellsOfB + ";");
        Checks.stand(r, 0, 0, 0, 1, 0, 0);
        Checks.due("12: " + cellsOfA + " and " + cellsOfB, r.reach(0, 1), touch ? 10000 : 0);
        Checks.due("12: " + cellsOfB + " and " + cellsOfA, r.reach(1, 0), touch ? 10000 : 0);
    }

    private static void touch() {
        Document.says(TERMS, "Two TOUCH, if they have a CELL of the ground in common and stand with one VOICE.");
        touches("ground 0 5", "ground 5 9", true);
        touches("ground 0 5", "ground 6 9", false);
        touches("ground 0 0", "ground 0 0", true);
        touches("ground 39 39", "ground 39 39", true);
        touches("ground 0 39", "ground 20 20", true);
        touches("ground 32 32", "ground 0 0", false);
        touches("ground 39 39", "ground 7 7", false);
        touches("ground 31 31", "ground 32 39", false);
        touches("ground 1 1 ground 3 3", "ground 2 2 ground 4 4", false);
        touches("ground 1 1 ground 3 3", "ground 2 2 ground 3 4", true);
        touches("ground 0 39", "", false);
        touches("", "", false);
        RingPlaces r = Checks.ringOf("land l;thing a l 0 9 ground 0 0 voice 0;thing b l 0 9 ground 0 0 voice 1;");
        for (int voice = 0; voice < 4; voice++) {
            for (int other = 0; other < 4; other++) {
                Checks.stand(r, 0, 0, voice, 1, 0, other);
                Checks.due("12: VOICES " + voice + " and " + other, r.reach(0, 1), voice == other ? 10000 : 0);
            }
        }
    }

    private static void reach() {
        Document.says(TERMS, "REACH of one on another that it TOUCHES: its loudness times 1000 by (10 and its sharpness times"
            + " how far APART), cut.");
        RingPlaces r = Checks.ringOf("land l;thing a l 0 9 ground 0 0;thing b l 0 9 ground 0 0 loud 1 sharp 99;"
            + "thing c l 0 9 ground 0 0 loud 200 sharp 2;");
        Checks.stand(r, 0, 0, 0, 1, 98, 0, 2, 100, 0);
        Checks.due("12: 100000 by 500", r.reach(0, 1), 200);
        Checks.due("12: 100000 by 510, cut", r.reach(0, 2), 196);
        Checks.due("12: 200000 by 210: its own loudness and sharpness", r.reach(2, 0), 952);
        Checks.due("12: 1000 by 208", r.reach(1, 2), 4);
        r.stand(1, 10, 0);
        Checks.due("12: 1000 by 1000", r.reach(1, 0), 1);
        r.stand(1, 11, 0);
        Checks.due("12: 1000 by 1099", r.reach(1, 0), 0);
        r.stand(1, 97, 0);
        Checks.due("12: 100000 by 495", r.reach(0, 1), 202);
        r.stand(1, 0, 0);
        Checks.due("12: 1000 by 10", r.reach(1, 0), 100);
        Checks.due("12: 100000 by 10", r.reach(0, 1), 10000);
    }

    private static void heard() {
        Document.says(TERMS, "HEARD by a THING: REACH of all others that stand, added.");
        RingPlaces r = Checks.ringOf(FOUR);
        Checks.stand(r, 0, 300, 0);
        Checks.due("13: alone", r.heard(0), 0);
        Checks.stand(r, 1, 400, 0, 2, 300, 0, 3, 200, 0);
        Checks.due("13: of b 196, of z 999000 by 110, of c nothing", r.heard(0), 196 + 9081);
        Checks.due("13: a DEAD one hears all three", r.heard(3), 196 + 99 + 196);
        r.lift(1);
        Checks.due("13: b does not stand", r.heard(0), 9081);
        r.stand(3, 200, 1);
        Checks.due("13: z with another VOICE", r.heard(0), 0);
        StringBuilder text = new StringBuilder("land l;");
        for (int t = 0; t < 16; t++) {
            text.append("thing t").append((char) ('a' + t)).append(" l 0 9 ground 0 0 loud 999;");
        }
        RingPlaces full = Checks.ringOf(text.toString());
        for (int t = 0; t < 16; t++) {
            full.stand(t, 7, 2);
        }
        Checks.due("13: the first of sixteen", full.heard(0), 15 * 99900);
        Checks.due("13: the last of sixteen", full.heard(15), 15 * 99900);
        Checks.due("37: sixteen stand", full.count(3), 16);
        Checks.due("28: two of sixteen, all of them WRONG", full.sell(14, 15), 0);
    }

    private static void wrongByItself() {
        Document.says(TERMS, "WRONG of a THING that stands and is not DEAD, the least:");
        RingPlaces r = Checks.ringOf("land l;thing a l 5 9 ground 0 0 voice 0 bear 0;"
            + "thing b l 0 99 ground 0 0 voice 0 voice 1 bear 0;thing z l 5 9 ground 0 0 voice 0 bear 0 dead 1 4;");
        Checks.stand(r, 0, 0, 1, 1, 0, 1, 2, 0, 1);
        Checks.due("14: 1 ahead of 2, 3 and 4", r.wrong(0), 1);
        Checks.stand(r, 0, 5, 1);
        Checks.due("14: 2 ahead of 3 and 4", r.wrong(0), 2);
        Checks.stand(r, 0, 5, 0, 1, 5, 0);
        Checks.due("14: 3 ahead of 4", r.wrong(0), 3);
        Checks.stand(r, 1, 25, 0);
        Checks.due("14: 4", r.wrong(0), 4);
        Checks.due("14: a DEAD one is never WRONG", r.wrong(2), -1);
        r.lift(1);
        Checks.due("14: nothing", r.wrong(0), 0);
        Checks.due("14: one that does not stand is not WRONG", r.wrong(1), -1);
        Document.says(TERMS, "1 it is not in its ARC;");
        RingPlaces arc = Checks.ringOf("land l;thing a l 3590 10 voice 0;thing b l 0 0 voice 0;");
        int[][] degrees = {{3589, 1}, {3590, 0}, {3599, 0}, {0, 0}, {10, 0}, {11, 1}};
        for (int[] one : degrees) {
            Checks.stand(arc, 0, one[0], 0);
            Checks.due("14: at " + one[0], arc.wrong(0), one[1]);
        }
        Document.says(TERMS, "2 that VOICE is not one of its own;");
        RingPlaces voices = Checks.ringOf("land l;thing a l 0 9 voice 1 voice 3;thing b l 0 9;thing c l 0 9 voice 0 voice 2;");
        for (int voice = 0; voice < 4; voice++) {
            Checks.stand(voices, 0, 0, voice, 1, 0, voice, 2, 0, voice);
            Checks.due("14: 1 and 3 are its own, not " + voice, voices.wrong(0), voice % 2 == 1 ? 0 : 2);
            Checks.due("14: none is its own, not " + voice, voices.wrong(1), 2);
            Checks.due("14: 0 and 2 are its own, not " + voice, voices.wrong(2), voice % 2 == 0 ? 0 : 2);
        }
    }

    /** WRONG of the first of two quiet ones, at two degrees. */
    private static void near(int apart, int x, int y, int wrong) {
        RingPlaces r = Checks.ringOf("land l;apart " + apart + ";thing a l 0 3599 ground 0 0 voice 0 loud 1 bear 9999;"
            + "thing b l 0 3599 ground 0 0 voice 0 loud 1 bear 9999;");
        Checks.stand(r, 0, x, 0, 1, y, 0);
        Checks.due("14: 'apart' " + apart + " at " + x + " and " + y, r.wrong(0), wrong);
        Checks.due("14: the other, 'apart' " + apart + " at " + y + " and " + x, r.wrong(1), wrong);
    }

    private static void wrongByOthers() {
        Document.says(TERMS, "3 it TOUCHES one (a DEAD one, too) that is less than 'apart' APART from it;");
        near(30, 100, 129, 3);
        near(30, 100, 130, 0);
        near(30, 3590, 19, 3);
        near(30, 3590, 20, 0);
        near(0, 7, 7, 0);
        near(1, 7, 7, 3);
        near(1, 7, 8, 0);
        near(300, 0, 299, 3);
        near(300, 0, 3300, 0);
        near(300, 0, 3301, 3);
        RingPlaces r = Checks.ringOf("land l;apart 30;thing a l 0 3599 ground 0 0 voice 0 voice 1 bear 9999;"
            + "thing z l 0 9 ground 0 1 loud 1 dead 1 4;thing c l 0 3599 ground 1 1 voice 0 bear 9999;");
        Checks.stand(r, 0, 300, 0, 1, 329, 0);
        Checks.due("14: a DEAD one at 29", r.wrong(0), 3);
        Checks.stand(r, 1, 330, 0);
        Checks.due("14: a DEAD one at 30", r.wrong(0), 0);
        Checks.stand(r, 0, 330, 1);
        Checks.due("14: with another VOICE", r.wrong(0), 0);
        Checks.stand(r, 0, 300, 0, 2, 300, 0);
        Checks.due("14: without a CELL in common", r.wrong(0), 0);
        Document.says(TERMS, "4 it is DROWNED: it HEARS more than its 'bear'.");
        RingPlaces s = Checks.ringOf("land l;apart 0;thing a l 0 999 ground 0 0 voice 0 bear 196;"
            + "thing b l 0 999 ground 0 0 voice 0 bear 195;thing c l 0 999 ground 0 0 voice 0 bear 392;thing d l 0 999 voice 0 bear 0;");
        Checks.stand(s, 0, 300, 0, 1, 400, 0, 3, 300, 0);
        Checks.due("14: hears 196 and bears 196", s.wrong(0), 0);
        Checks.due("14: hears 196 and bears 195", s.wrong(1), 4);
        Checks.due("14: hears 0 and bears 0", s.wrong(3), 0);
        Checks.stand(s, 1, 500, 0, 2, 400, 0);
        Checks.due("14: hears twice 196 and bears 392", s.wrong(2), 0);
        Checks.stand(s, 0, 301, 0);
        Checks.due("14: hears 198 and 196 and bears 392", s.wrong(2), 4);
        RingPlaces t = Checks.ringOf("land l;apart 0;thing a l 0 999 ground 0 0 voice 0 bear 0;thing b l 0 999 ground 0 0 voice 0"
            + " loud 1 sharp 99 bear 9999;");
        Checks.stand(t, 0, 10, 0, 1, 0, 0);
        Checks.due("14: hears 1 and bears 0", t.wrong(0), 4);
        Checks.stand(t, 0, 11, 0);
        Checks.due("14: TOUCHES one that it does not hear", t.wrong(0), 0);
    }

    private static void right() {
        Document.says(TERMS, "A STANDING is RIGHT, if none is WRONG.");
        RingPlaces r = Checks.ringOf(FOUR);
        Checks.due("15: nobody stands", r.judge(), -1);
        Checks.stand(r, 0, 300, 0);
        Checks.due("15: one", r.judge(), -1);
        Checks.stand(r, 2, 51, 0);
        Checks.due("15: one of two is WRONG", r.judge(), 2);
        Checks.stand(r, 2, 50, 0);
        Checks.due("15: none is WRONG", r.judge(), -1);
        Checks.stand(r, 3, 300, 3);
        Checks.due("15: DEAD ones are not asked", r.judge(), -1);
    }

    private static void standCalls() {
        Document.says("Promise 9", "THING t stands at a degree with a VOICE now: true;");
        RingPlaces r = Checks.ringOf(FOUR);
        Checks.due("9: out of its ARC, with a VOICE that is not its own", r.stand(0, 3000, 3), true);
        Checks.due("9: elsewhere", r.stand(0, 300, 0), true);
        Checks.due("9: a DEAD one", r.stand(3, 200, 0), true);
        Checks.dueAll("11: where they stand", Checks.standings(r, 0, 3), 300, 0, 200, 0);
        Checks.due("13: heard where it stands, and not where it stood", r.heard(3), 196);
        Checks.stand(r, 0, 301, 0);
        Checks.due("13: by one more tenth", r.heard(3), 194);
        Document.says("Promise 9", "false: not as told.");
        String ahead = Checks.state(r, 4);
        int[][] wrong = {{4, 0, 0}, {-1, 0, 0}, {16, 0, 0}, {LEAST, 0, 0}, {GREATEST, 0, 0}, {0, -1, 0}, {0, 3600, 0}, {0, LEAST, 0},
            {0, GREATEST, 0}, {0, 0, -1}, {0, 0, 4}, {0, 0, LEAST}, {0, 0, GREATEST}};
        for (int[] one : wrong) {
            Checks.due("9: " + one[0] + " at " + one[1] + " with " + one[2], r.stand(one[0], one[1], one[2]), false);
        }
        Checks.dueText("9: nothing is changed", Checks.state(r, 4), ahead);
        Document.says("Promise 10", "THING t is lifted: true;");
        Checks.due("10: a DEAD one", r.lift(3), true);
        Checks.due("10: the first", r.lift(0), true);
        Checks.dueAll("11: none stands", Checks.standings(r, 0, 3), -1, -1, -1, -1);
        Checks.due("37: none stands", r.count(3), 0);
        Checks.stand(r, 1, 400, 0);
        Checks.due("13: none is heard", r.heard(1), 0);
        Document.says("Promise 10", "false: it does not stand, or no such one.");
        Checks.due("10: lifted already", r.lift(0), false);
        Checks.due("10: never stood", r.lift(2), false);
        int[] none = {4, -1, 15, 16, LEAST, GREATEST};
        for (int t : none) {
            Checks.due("10: " + t, r.lift(t), false);
        }
        Checks.due("37: one stands still", r.count(3), 1);
        Document.says("Promise 11", "Where THING t stands (what 0), its VOICE (1);");
        Checks.stand(r, 2, 3599, 3, 3, 0, 0);
        Checks.dueAll("11: each", Checks.standings(r, 1, 2, 3), 400, 0, 3599, 3, 0, 0);
        Document.says("Promise 11", "NONE: it does not, no such ones.");
        int[][] nowhere = {{0, 0}, {0, 1}, {2, 2}, {2, -1}, {4, 0}, {-1, 0}, {-1, 1}, {16, 1}, {LEAST, 0}, {GREATEST, 1}, {2, LEAST},
            {2, GREATEST}};
        for (int[] one : nowhere) {
            Checks.due("11: stands " + one[0] + ", " + one[1], r.stands(one[0], one[1]), -1);
        }
    }

    private static void hearCalls() {
        Document.says("Promise 12", "REACH of a on b;");
        RingPlaces r = Checks.ringOf(FOUR);
        Checks.stand(r, 0, 300, 0, 1, 400, 0, 3, 200, 0);
        Checks.due("12: of a on b", r.reach(0, 1), 196);
        Checks.due("12: of z on a", r.reach(3, 0), 9081);
        Checks.due("12: of a on z", r.reach(0, 3), 196);
        Document.says("Promise 12", "NONE: no such ones, one, or one of them does not stand;");
        int[][] none = {{0, 0}, {3, 3}, {0, 2}, {2, 0}, {2, 2}, {0, 4}, {4, 0}, {-1, 0}, {0, -1}, {4, 4}, {16, 0}, {LEAST, GREATEST},
            {0, GREATEST}};
        for (int[] one : none) {
            Checks.due("12: reach " + one[0] + ", " + one[1], r.reach(one[0], one[1]), -1);
        }
        Document.says("Promise 12", "0: they do not TOUCH.");
        Checks.stand(r, 2, 300, 0, 1, 400, 1);
        Checks.due("12: no CELL in common", r.reach(0, 2), 0);
        Checks.due("12: other VOICES", r.reach(0, 1), 0);
        Checks.stand(r, 0, 300, 1);
        Checks.due("12: one VOICE again", r.reach(0, 1), 196);
        Document.says("Promise 13", "HEARD by THING t;");
        Checks.due("13: of b alone", r.heard(0), 196);
        Checks.due("13: nothing", r.heard(3) - 100000 / 510, 0);
        Document.says("Promise 13", "NONE: it does not stand, no such one.");
        r.lift(2);
        int[] nobody = {2, 4, -1, 16, LEAST, GREATEST};
        for (int t : nobody) {
            Checks.due("13: heard by " + t, r.heard(t), -1);
        }
    }

    private static void judgeCalls() {
        Document.says("Promise 14", "WRONG of THING t: 0 nothing;");
        RingPlaces r = Checks.ringOf(FOUR);
        Checks.stand(r, 0, 100, 0, 3, 100, 1);
        Checks.due("14: nothing", r.wrong(0), 0);
        Checks.stand(r, 0, 99, 0);
        Checks.due("14: out of its ARC", r.wrong(0), 1);
        Document.says("Promise 14", "NONE: no such one, it does not stand, or is DEAD.");
        int[] none = {1, 3, 4, -1, 16, LEAST, GREATEST};
        for (int t : none) {
            Checks.due("14: wrong of " + t, r.wrong(t), -1);
        }
        Document.says("Promise 15", "The first THING that is WRONG;");
        Checks.due("15: the first of all", r.judge(), 0);
        Checks.stand(r, 0, 100, 0, 2, 60, 0);
        Checks.due("15: the third", r.judge(), 2);
        Checks.stand(r, 1, 199, 1);
        Checks.due("15: the second is ahead of it", r.judge(), 1);
        StringBuilder text = new StringBuilder("land l;");
        for (int t = 0; t < 16; t++) {
            text.append("thing t").append((char) ('a' + t)).append(" l 0 9 voice 0;");
        }
        RingPlaces full = Checks.ringOf(text.toString());
        Checks.stand(full, 14, 9, 0, 15, 10, 0);
        Checks.due("15: the last of sixteen", full.judge(), 15);
        Document.says("Promise 15", "NONE: the STANDING is RIGHT.");
        Checks.stand(full, 15, 9, 0);
        Checks.due("15: RIGHT", full.judge(), -1);
        Checks.due("15: nobody stands", new RingPlaces().judge(), -1);
    }

    /** s and t do not TOUCH, c TOUCHES s alone and is heard by it; s is not heard from afar. */
    private static final String SALE = "land l;apart 20;thing s l 100 3000 ground 0 0 voice 0 bear 100 loud 1 sharp 99;"
        + "thing t l 0 3599 ground 5 5 voice 1 bear 0;thing c l 0 3599 ground 0 0 voice 0 bear 9999;";

    private static void sale() {
        Document.says(TERMS, "SALE of two THINGS that stand: they change degrees (VOICES stay);");
        RingPlaces r = Checks.ringOf(SALE);
        Checks.stand(r, 0, 1500, 0, 1, 2000, 1);
        Checks.due("28: let", r.sell(0, 1), 1);
        Checks.dueAll("28: changed", Checks.standings(r, 0, 1), 2000, 0, 1500, 1);
        Checks.due("28: back", r.sell(1, 0), 1);
        Checks.dueAll("28: as ahead", Checks.standings(r, 0, 1), 1500, 0, 2000, 1);
        Checks.stand(r, 1, 1500, 1);
        Checks.due("28: at one degree", r.sell(0, 1), 1);
        Document.says(TERMS, "it is let, if neither is WRONG then,");
        sold("28: s at the begin of its ARC", 1500, 100, 1, 1);
        sold("28: s ahead of its ARC", 1500, 99, 1, 0);
        sold("28: s at the end of its ARC", 1500, 3000, 1, 1);
        sold("28: s behind its ARC", 1500, 3001, 1, 0);
        sold("28: s was WRONG, and is not then", 3100, 1500, 1, 1);
        sold("28: t with a VOICE that is not its own", 1500, 2000, 2, 0);
        RingPlaces d = Checks.ringOf(SALE);
        // c is heard by s: 100000 by 10 and 5 times how far they are APART.
        Checks.stand(d, 0, 1500, 0, 1, 497, 1, 2, 300, 0);
        Checks.due("28: s hears 100 at 497", d.sell(0, 1), 1);
        Checks.stand(d, 0, 1500, 0, 1, 496, 1);
        Checks.due("28: s hears 101 at 496", d.sell(0, 1), 0);
        Checks.due("28: told the other way", d.sell(1, 0), 0);
        RingPlaces n = Checks.ringOf(SALE.replace("bear 100 loud 1", "bear 9999 loud 1"));
        Checks.stand(n, 0, 1500, 0, 1, 320, 1, 2, 300, 0);
        Checks.due("28: s 20 APART from c", n.sell(0, 1), 1);
        Checks.stand(n, 0, 1500, 0, 1, 319, 1);
        Checks.due("28: s 19 APART from c", n.sell(0, 1), 0);
    }

    private static void sold(String what, int degreeOfS, int degreeOfT, int voiceOfT, int let) {
        RingPlaces r = Checks.ringOf(SALE);
        Checks.stand(r, 0, degreeOfS, 0, 1, degreeOfT, voiceOfT);
        Checks.due(what, r.sell(0, 1), let);
        Checks.due(what + ": where s stands", r.stands(0, 0), let == 1 ? degreeOfT : degreeOfS);
    }

    private static void saleMindsOthers() {
        Document.says(TERMS, "and no other one that stands HEARS more than ahead, or is WRONG.");
        String three = "land l;apart 0;thing a l 0 999 ground 0 0 voice 0 bear 9999 loud 50;"
            + "thing b l 0 999 ground 1 1 voice 0 bear 9999 loud 100;thing c l 0 999 ground 0 1 voice 0 voice 1 bear 9999;"
            + "thing z l 0 999 ground 0 1 dead 1 4 loud 1 sharp 99;";
        RingPlaces r = Checks.ringOf(three);
        Checks.stand(r, 0, 100, 0, 1, 300, 0, 2, 200, 0);
        Checks.due("13: c hears 98 and 196", r.heard(2), 98 + 196);
        Checks.due("28: c hears as much as ahead", r.sell(0, 1), 1);
        // b comes to 100 from 301: 100000 by 515 is 194, by 510 196; a goes away: 50000 by 510 is 98, by 515 97.
        Checks.stand(r, 0, 100, 0, 1, 301, 0);
        Checks.due("13: c hears 98 and 194", r.heard(2), 98 + 194);
        Checks.due("28: c would hear 97 and 196", r.sell(0, 1), 0);
        Checks.dueAll("28: where they were", Checks.standings(r, 0, 1), 100, 0, 301, 0);
        Checks.stand(r, 0, 301, 0, 1, 100, 0);
        Checks.due("28: c hears less", r.sell(0, 1), 1);
        Checks.stand(r, 0, 100, 0, 1, 301, 0, 2, 200, 1, 3, 200, 0);
        Checks.due("28: a DEAD one would hear more", r.sell(0, 1), 0);
        Checks.stand(r, 3, 200, 1);
        Checks.due("28: nobody hears", r.sell(0, 1), 1);
        r.lift(3);
        Checks.stand(r, 2, 1000, 0);
        Checks.due("28: c is WRONG all the time", r.sell(0, 1), 0);
        r.lift(2);
        Checks.due("28: c does not stand", r.sell(0, 1), 1);
        RingPlaces ahead = Checks.ringOf("land l;apart 0;thing c l 0 999 ground 0 1 voice 0 bear 9999;"
            + "thing a l 0 999 ground 0 0 voice 0 bear 9999 loud 50;thing b l 0 999 ground 1 1 voice 0 bear 9999;");
        Checks.stand(ahead, 0, 200, 0, 1, 100, 0, 2, 301, 0);
        Checks.due("28: c would hear more, and is the first THING", ahead.sell(1, 2), 0);
        Checks.stand(ahead, 2, 300, 0);
        Checks.due("28: c would hear as much", ahead.sell(1, 2), 1);
        RingPlaces w = Checks.ringOf(three.replace("voice 1 bear 9999", "voice 1 bear 304"));
        Checks.stand(w, 0, 290, 0, 1, 100, 0, 2, 200, 0);
        Checks.due("14: c bears 108 and 196", w.wrong(2), 0);
        Checks.stand(w, 0, 289, 0);
        Checks.due("14: c does not bear 109 and 196", w.wrong(2), 4);
        Checks.due("28: c is DROWNED ahead and then", w.sell(0, 1), 0);
        Checks.stand(w, 0, 100, 0, 1, 290, 0);
        Checks.due("14: c does not bear 98 and 217", w.wrong(2), 4);
        Checks.due("28: c is DROWNED ahead, but not then", w.sell(0, 1), 1);
        Checks.due("14: c bears 108 and 196 again", w.wrong(2), 0);
    }

    private static void sellCalls() {
        Document.says("Promise 28", "SALE of two THINGS: 1 they have changed degrees,");
        RingPlaces r = Checks.ringOf(SALE + "thing z l 0 9 dead 1 4;");
        Checks.stand(r, 0, 1500, 0, 1, 2000, 1, 3, 7, 2);
        Checks.due("28: let", r.sell(0, 1), 1);
        Checks.dueAll("28: changed", Checks.standings(r, 0, 1, 3), 2000, 0, 1500, 1, 7, 2);
        Checks.due("28: a DEAD one that stands", r.sell(1, 3), 1);
        Checks.dueAll("28: changed, too", Checks.standings(r, 0, 1, 3), 2000, 0, 7, 1, 1500, 2);
        Document.says("Promise 28", "0 it is not let (nothing is changed);");
        String ahead = Checks.state(r, 4);
        Checks.due("28: s would leave its ARC", r.sell(0, 1), 0);
        Checks.dueText("28: nothing is changed", Checks.state(r, 4), ahead);
        Document.says("Promise 28", "NONE: no such ones, one, or one of them does not stand.");
        int[][] none = {{0, 0}, {0, 2}, {2, 0}, {2, 2}, {0, 4}, {4, 0}, {-1, 0}, {0, -1}, {16, 0}, {LEAST, 0}, {0, GREATEST}};
        for (int[] one : none) {
            Checks.due("28: sell " + one[0] + ", " + one[1], r.sell(one[0], one[1]), -1);
        }
        Checks.dueText("28: nothing is changed then", Checks.state(r, 4), ahead);
    }

    private static void images() {
        Document.says("Promise 35", "RING and STANDING are kept in place k (0, 1): true;");
        RingPlaces r = new RingPlaces();
        Checks.due("35: an empty one in 1", r.image(1), true);
        Checks.read(r, FOUR + "place 9;paper a 1 2 there 3;narrow b 4;first there;");
        Checks.stand(r, 0, 300, 0, 3, 200, 0);
        String ahead = Checks.state(r, 4);
        Checks.due("35: a full one in 0", r.image(0), true);
        Checks.dueText("35: nothing is changed", Checks.state(r, 4), ahead);
        r.lift(0);
        Checks.stand(r, 1, 400, 0, 3, 201, 0);
        Checks.read(r, "land q;land p;thing t p 5 6 loud 9 sharp 9;apart 3;");
        Checks.due("36: out of 0", r.restore(0), true);
        Checks.dueText("35: what was kept is not what came behind", Checks.state(r, 4), ahead);
        Checks.dueAll("35: the RING's other facts", new int[] {r.place(0), r.thing(0, 10), r.thing(0, 12), r.thing(1, 13),
            r.right(0, 1, 5), (int) r.ground(1)}, 9, 1, 3, 4, 1, 0x3e0);
        Checks.due("36: out of 1", r.restore(1), true);
        Checks.dueAll("35: empty", new int[] {r.count(0), r.count(1), r.count(2), r.count(3), r.count(4), r.place(0)}, 0, 0, 0, 0, 20, -1);
        Checks.due("35: kept anew in 0", r.image(0), true);
        Checks.read(r, FOUR);
        r.restore(0);
        Checks.due("35: the latest is kept", r.count(1), 0);
        Document.says("Promise 35", "false: no such one.");
        int[] none = {-1, 2, LEAST, GREATEST};
        for (int k : none) {
            Checks.due("35: image " + k, r.image(k), false);
        }
    }

    private static void restores() {
        Document.says("Promise 36", "They are as kept in place k (the tape, and what other calls told last, stays): true;");
        RingPlaces r = Checks.ringOf(FOUR + "narrow a 7;");
        Checks.stand(r, 0, 300, 0);
        r.image(0);
        Checks.read(r, "land l;thing p l 0 9 bear 60;thing q l 0 9 bear 80;thing z l 0 9 voice 0;");
        Checks.row(r, 2, 1);
        Checks.due("18: an order", r.shortest(), 0);
        Checks.stand(r, 1, 0, 0);
        Checks.due("23: a FIT", r.fit(), 4);
        r.lift(1);
        Checks.due("26: a set", r.narrow(), 0);
        Checks.read(r, "land a;land a;");
        r.feed(0x00010000, 0, 0, 0, 0);
        r.end(2);
        Checks.due("36: restored", r.restore(0), true);
        Checks.dueAll("36: as kept", Checks.standings(r, 0, 1), 300, 0, -1, -1);
        Checks.due("36: the RING", r.count(1), 4);
        Checks.due("36: the tape stays", r.count(5), 2);
        Checks.due("36: the latest FAULT stays", r.fault(), 3);
        Checks.dueAll("36: the latest order stays", new int[] {r.orderAt(0), r.orderAt(1)}, 1, 2);
        Checks.dueAll("36: the latest FIT stays", new int[] {r.fitOf(0), r.fitOf(1)}, -1, 4);
        Checks.due("36: the latest COST stays", r.narrowCost(), 0);
        Checks.due("36: the tape's bytes stay", r.arc(), 391);
        r.lift(0);
        Checks.stand(r, 1, 599, 0);
        Checks.due("36: once more", r.restore(0), true);
        Checks.dueAll("36: as kept, not as it was since", Checks.standings(r, 0, 1), 300, 0, -1, -1);
        Checks.stand(r, 1, 400, 0);
        Checks.due("13: what is heard is of the STANDING that is kept", r.heard(0), 196);
        Document.says("Promise 36", "false: no such one, or nothing is kept there.");
        String ahead = Checks.state(r, 4);
        int[] none = {1, -1, 2, LEAST, GREATEST};
        for (int k : none) {
            Checks.due("36: restore " + k, r.restore(k), false);
        }
        Checks.dueText("36: nothing is changed", Checks.state(r, 4), ahead);
        Checks.due("36: nothing is kept in a new object", new RingPlaces().restore(0), false);
    }

    private static void newRing() {
        Document.says(TERMS, "A new RING has no STANDING.");
        RingPlaces r = Checks.ringOf(FOUR);
        Checks.stand(r, 0, 300, 0, 1, 301, 0, 3, 302, 0);
        Checks.due("4: the same RING anew", Checks.read(r, FOUR), 6);
        Checks.due("37: nobody stands", r.count(3), 0);
        Checks.dueAll("11: nobody stands", Checks.standings(r, 0, 1, 2, 3), -1, -1, -1, -1, -1, -1, -1, -1);
        Checks.stand(r, 0, 300, 0);
        Checks.due("13: nobody is heard any more", r.heard(0), 0);
        Checks.due("14: nobody is too near any more", r.wrong(0), 0);
        r.ring();
        Checks.due("4: an empty RING", r.count(3), 0);
    }

    private static void throwing() {
        Document.says(TERMS, "A call that throws changes nothing.");
        RingPlaces r = Checks.ringOf(FOUR + "narrow a 7;");
        Checks.stand(r, 0, 300, 0, 1, 400, 1, 3, 200, 0);
        Checks.row(r, 1, 0);
        r.shortest();
        r.fit();
        r.narrow();
        Checks.read(r, "?");
        r.feed(1, 2, 3, 4, 5);
        r.end(13);
        String ahead = Checks.state(r, 4);
        int[][] wrong = {{4, 0}, {-1, 0}, {0, 14}, {0, -1}};
        for (int[] one : wrong) {
            Checks.due("6: thing " + one[0] + ", " + one[1], Checks.thing(r, one[0], one[1]), Checks.THROWS);
        }
        int[][] drifts = {{0, 0, 0}, {4, 0, 0}, {-1, 0, 0}, {3, 3600, 0}, {3, -1, 0}, {3, 0, 1000}, {3, 0, -1}};
        for (int[] one : drifts) {
            Checks.due("33: drift " + one[0] + ", " + one[1] + ", " + one[2], Checks.drift(r, one[0], one[1], one[2]), Checks.THROWS);
        }
        Checks.dueText("6, 33: nothing is changed", Checks.state(r, 4), ahead);
    }
}
