/** A test for each sentence of FOUND, MOST WORTH and LET IN, and of promises 20 to 22 and 25. */
final class SearchSentences {
    private static final String TERMS = "Terms";
    private static final int LEAST = Integer.MIN_VALUE;
    private static final int GREATEST = Integer.MAX_VALUE;

    private SearchSentences() {
    }

    static void all() {
        foundForSome();
        foundLifted();
        foundRight();
        foundFirst();
        findCalls();
        waysCalls();
        mostWorth();
        mostCalls();
        letInFewest();
        letInAsFound();
        letInSets();
        letInOtherwise();
        letInCalls();
    }

    private static int find(RingPlaces r, int... row) {
        Checks.row(r, row);
        return r.find();
    }

    private static int ways(RingPlaces r, int... row) {
        Checks.row(r, row);
        return r.ways();
    }

    private static int most(RingPlaces r, int... row) {
        Checks.row(r, row);
        return r.most();
    }

    /** THINGS a, b, .. that all TOUCH with VOICE 0 and bear what they hear: only 'apart', which is 20, parts them. */
    private static String quiet(int many, String each) {
        StringBuilder text = new StringBuilder("land l;");
        for (int k = 0; k < many; k++) {
            // The LAND is l.
            text.append("thing ").append((char) ('a' + (k < 11 ? k : k + 1))).append(" l ").append(each).append(" ground 0 0 loud 1 bear 9999;");
        }
        return text.toString();
    }

    private static void foundForSome() {
        Document.says(TERMS, "FOUND for some THINGS (1 to 4, not DEAD):");
        RingPlaces r = Checks.ringOf(quiet(5, "0 999 voice 0") + "thing z l 0 999 voice 0 dead 1 4;"
            + "place 0;place 100;place 200;place 300;place 400;");
        Checks.due("20: none", find(r), -1);
        Checks.due("20: five", find(r, 0, 1, 2, 3, 4), -1);
        Checks.due("20: a DEAD one", find(r, 5), -1);
        Checks.due("20: a DEAD one among others", find(r, 0, 1, 5), -1);
        Checks.due("37: nobody stands", r.count(3), 0);
        Checks.due("20: one", find(r, 4), 1);
        Checks.due("20: four", find(r, 0, 1, 2, 3), 1);
        Checks.due("37: five stand", r.count(3), 5);
        Checks.due("21: five", ways(r, 0, 1, 2, 3, 4), -1);
        Checks.due("22: five", most(r, 0, 1, 2, 3, 4), -1);
    }

    private static void foundLifted() {
        Document.says(TERMS, "they are lifted, then each gets one of the PLACES and a VOICE of its own,");
        RingPlaces r = Checks.ringOf(quiet(3, "0 999 voice 0") + "place 0;place 100;");
        Checks.stand(r, 0, 0, 0, 1, 100, 0);
        Checks.due("20: they change", find(r, 1, 0), 1);
        Checks.dueAll("20: none is in its own way", Checks.standings(r, 0, 1), 100, 0, 0, 0);
        Checks.due("20: no PLACE is left for a third", find(r, 2), 0);
        Checks.stand(r, 0, 500, 3);
        Checks.due("20: WRONG ahead", find(r, 0), 1);
        Checks.dueAll("20: not so then", Checks.standings(r, 0, 1), 100, 0, 0, 0);
        RingPlaces p = Checks.ringOf("land l;thing a l 100 200 voice 0;thing b l 201 99 voice 2;place 99;place 100;place 200;place 201;");
        Checks.due("20: the first PLACE in its ARC", find(p, 0), 1);
        Checks.dueAll("20: FROM", Checks.standings(p, 0), 100, 0);
        Checks.due("21: two PLACES in its ARC", ways(p, 0), 2);
        Checks.due("21: two PLACES in an ARC over 0", ways(p, 1), 2);
        Checks.due("20: over 0", find(p, 1), 1);
        Checks.dueAll("20: TO, and a VOICE of its own", Checks.standings(p, 1), 99, 2);
        Checks.due("20: without PLACES", find(Checks.ringOf(quiet(1, "0 999 voice 0")), 0), 0);
        Checks.due("20: no PLACE in its ARC", find(Checks.ringOf(quiet(1, "0 99 voice 0") + "place 100;"), 0), 0);
        Checks.due("20: without VOICES", find(Checks.ringOf(quiet(1, "0 999") + "place 100;"), 0), 0);
        Checks.due("21: by VOICES alone", ways(Checks.ringOf(quiet(1, "0 999 voice 0 voice 3") + "place 100;"), 0), 2);
    }

    private static void foundRight() {
        Document.says(TERMS, "so that the STANDING, with all others that stand as they do, is RIGHT:");
        found("a 20 from b", "bear 9999 loud 1", 80, 1);
        found("a 19 from b", "bear 9999 loud 1", 81, 0);
        // b is at 0 and hears a by 100000 by 510, and so does a.
        found("b bears what it hears of a", "bear 196", 0, 1);
        found("b bears one less", "bear 195", 0, 0);
        RingPlaces a = Checks.ringOf("land l;apart 0;thing a l 0 999 ground 0 0 voice 0 bear 195;"
            + "thing b l 0 999 ground 0 0 voice 0 bear 9999;place 100;");
        Checks.stand(a, 1, 0, 0);
        Checks.due("20: a itself is DROWNED", find(a, 0), 0);
        Checks.stand(a, 1, 3599, 0);
        Checks.due("20: b is WRONG by itself", find(a, 0), 0);
        Checks.stand(a, 1, 999, 0);
        Checks.due("20: far off", find(a, 0), 1);
        RingPlaces z = Checks.ringOf(quiet(2, "0 999 voice 0") + "thing z l 0 9 ground 0 0 dead 1 4 loud 1;place 100;place 200;");
        Checks.stand(z, 2, 110, 0);
        Checks.due("20: a DEAD one is in the way", find(z, 0), 1);
        Checks.dueAll("20: it stays", Checks.standings(z, 0, 2), 200, 0, 110, 0);
        Checks.due("20: both ways are barred", find(z, 1), 0);
        Checks.due("20: those to be found are minded, too", find(z, 0, 1), 0);
        z.lift(2);
        Checks.due("20: a PLACE for each", find(z, 0, 1), 1);
    }

    /** a is to be found at PLACE 100 while b stands somewhere. */
    private static void found(String what, String other, int degree, int want) {
        RingPlaces r = Checks.ringOf("land l;thing a l 0 999 ground 0 0 voice 0 bear 9999;"
            + "thing b l 0 999 ground 0 0 voice 0 " + other + ";place 100;");
        Checks.stand(r, 1, degree, 0);
        Checks.due("20: " + what, find(r, 0), want);
        Checks.due("20: b stays, " + what, r.stands(1, 0), degree);
        Checks.due("20: where a stands, " + what, r.stands(0, 0), want == 1 ? 100 : -1);
    }

    private static void foundFirst() {
        Document.says(TERMS, "the first (THING by THING as told, the lesser PLACE, then the lesser VOICE).");
        RingPlaces r = Checks.ringOf(quiet(3, "0 999 voice 0") + "place 500;place 100;place 300;");
        Checks.due("20: told 2 0 1", find(r, 2, 0, 1), 1);
        Checks.dueAll("20: 2 has the first PLACE, 0 the second", Checks.standings(r, 0, 1, 2), 100, 0, 300, 0, 500, 0);
        Checks.due("20: told 1 2 0", find(r, 1, 2, 0), 1);
        Checks.dueAll("20: 1 has the first PLACE, 2 the second", Checks.standings(r, 0, 1, 2), 300, 0, 500, 0, 100, 0);
        RingPlaces v = Checks.ringOf("land l;thing a l 0 999 ground 0 0 voice 3 voice 1 bear 9999;"
            + "thing b l 0 999 ground 0 0 voice 1 bear 9999;place 500;place 100;");
        Checks.due("20: two VOICES", find(v, 0, 1), 1);
        Checks.dueAll("20: a's lesser VOICE goes ahead of b's lesser PLACE", Checks.standings(v, 0, 1), 500, 1, 100, 1);
        Checks.due("20: b ahead", find(v, 1, 0), 1);
        Checks.dueAll("20: a's lesser PLACE goes ahead of its lesser VOICE", Checks.standings(v, 0, 1), 500, 3, 500, 1);
        RingPlaces back = Checks.ringOf(quiet(1, "0 999 voice 0") + "thing b l 500 500 ground 0 0 voice 0 loud 1 bear 9999;place 500;place 100;");
        Checks.due("20: a must leave the first PLACE to b", find(back, 0, 1), 1);
        Checks.dueAll("20: a has the second", Checks.standings(back, 0, 1), 100, 0, 500, 0);
        // c bears a once: what was tried and did not do must not be heard any more.
        RingPlaces heard = Checks.ringOf("land l;thing a l 0 999 ground 0 0 voice 0 bear 9999;"
            + "thing b l 200 200 ground 0 0 voice 0 loud 1 sharp 99 bear 9999;thing c l 0 999 ground 0 0 voice 0 loud 1 bear 196;"
            + "place 200;place 400;");
        Checks.stand(heard, 2, 300, 0);
        Checks.due("21: in one way", ways(heard, 0, 1), 1);
        Checks.due("20: the second way of a", find(heard, 0, 1), 1);
        Checks.dueAll("20: a has the second PLACE", Checks.standings(heard, 0, 1, 2), 400, 0, 200, 0, 300, 0);
        Checks.due("13: c hears a once", heard.heard(2), 196);
    }

    private static void findCalls() {
        Document.says("Promise 20", "FOUND for the tape's THINGS: 1 they stand so now,");
        RingPlaces r = Checks.ringOf(quiet(4, "0 999 voice 0") + "thing z l 0 999 dead 1 4;place 500;place 100;");
        Checks.stand(r, 2, 300, 0);
        Checks.due("20: two", find(r, 3, 0), 1);
        Checks.dueAll("20: they stand so", Checks.standings(r, 0, 1, 2, 3), 100, 0, -1, -1, 300, 0, 500, 0);
        Document.says("Promise 20", "0 there is none (the STANDING stays);");
        String ahead = Checks.state(r, 5);
        Checks.due("20: for a third", find(r, 1), 0);
        Checks.dueText("20: the STANDING stays", Checks.state(r, 5), ahead);
        Checks.due("20: for two that stand and a third", find(r, 0, 3, 1), 0);
        Checks.dueText("20: none is lifted", Checks.state(r, 5), ahead);
        Document.says("Promise 20", "NONE: not as told.");
        int[][] wrong = {{}, {0, 1, 2, 3, 0}, {0, 0}, {5}, {4}, {255}, {0, 128}, {1, 4}, {0, 1, 2, 3, 4, 5, 6, 7, 8, 9, 10, 11, 12}};
        for (int[] row : wrong) {
            Checks.due("20: a row of " + row.length, find(r, row), -1);
        }
        Checks.dueText("20: nothing is changed", Checks.state(r, 5), ahead);
    }

    private static void waysCalls() {
        Document.says("Promise 21", "In how many ways that can be (the STANDING stays);");
        RingPlaces r = Checks.ringOf(quiet(4, "0 999 voice 0") + "place 500;place 100;place 300;");
        Checks.due("21: one", ways(r, 2), 3);
        Checks.due("21: two", ways(r, 2, 0), 6);
        Checks.due("21: three", ways(r, 2, 0, 1), 6);
        Checks.due("21: four", ways(r, 2, 0, 1, 3), 0);
        Checks.stand(r, 0, 100, 0, 1, 310, 0);
        String ahead = Checks.state(r, 4);
        Checks.due("21: one is in the way", ways(r, 2, 1), 2);
        Checks.due("21: two are in the way", ways(r, 2), 1);
        Checks.due("21: those that stand are lifted", ways(r, 0, 1), 6);
        Checks.due("21: one too many", ways(r, 2, 3), 0);
        Checks.dueText("21: the STANDING stays", Checks.state(r, 4), ahead);
        Checks.stand(r, 0, 1000, 0);
        Checks.due("21: another one is WRONG", ways(r, 2), 0);
        StringBuilder free = new StringBuilder("land l;");
        for (int k = 0; k < 4; k++) {
            free.append("thing ").append((char) ('a' + k)).append(" l 0 3599 voice 0 voice 1 voice 2 voice 3;");
        }
        free.append("place 0;place 1;place 2;place 3;place 4;place 5;");
        Checks.due("21: as many as can be", ways(Checks.ringOf(free.toString()), 3, 1, 2, 0), 331776);
        Document.says("Promise 21", "NONE: not as told.");
        RingPlaces z = Checks.ringOf(quiet(5, "0 999 voice 0") + "thing z l 0 999 dead 1 4;place 500;");
        int[][] wrong = {{}, {0, 1, 2, 3, 4}, {0, 0}, {5}, {6}, {255}, {0, 5}};
        for (int[] row : wrong) {
            Checks.due("21: a row of " + row.length, ways(z, row), -1);
        }
    }

    /** Worth 2, 5, 3 and 0; all share a CELL. */
    private static final String WORTHS = "land l;thing a l 0 999 ground 0 0 voice 0 loud 1 bear 9999 worth 2;"
        + "thing b l 0 999 ground 0 0 voice 0 loud 1 bear 9999 worth 5;thing c l 0 999 ground 0 0 voice 0 loud 1 bear 9999 worth 3;"
        + "thing d l 0 999 ground 0 0 voice 0 loud 1 bear 9999 worth 0;";

    /** Nobody bears more than 1900 within 500 of it. */
    private static final String ALONE = "thing e l 0 999 ground 0 0 voice 0 loud 999 sharp 1 bear 9999";

    private static void mostWorth() {
        Document.says(TERMS, "MOST WORTH: so that it is RIGHT with some of them not standing at all: the greatest worth of those that do;");
        RingPlaces one = Checks.ringOf(WORTHS + "place 500;");
        Checks.due("22: one of three", most(one, 0, 2, 1), 5);
        Checks.dueAll("22: b", Checks.standings(one, 0, 1, 2), -1, -1, 500, 0, -1, -1);
        RingPlaces two = Checks.ringOf(WORTHS + "place 500;place 100;");
        Checks.due("22: two of three", most(two, 0, 1, 2), 8);
        Checks.dueAll("22: b and c", Checks.standings(two, 0, 1, 2), -1, -1, 500, 0, 100, 0);
        RingPlaces all = Checks.ringOf(WORTHS + "place 500;place 100;place 300;place 700;");
        Checks.due("22: all four", most(all, 3, 2, 1, 0), 10);
        Checks.dueAll("22: as told", Checks.standings(all, 3, 2, 1, 0), 500, 0, 100, 0, 300, 0, 700, 0);
        Checks.due("22: none can stand", most(Checks.ringOf(WORTHS), 0, 1), 0);
        // With e at one of the two PLACES, nobody at the other bears what it hears of it.
        RingPlaces room = Checks.ringOf(WORTHS.replace("bear 9999", "bear 1900") + ALONE + " worth 9;place 500;place 100;");
        Checks.due("22: the one alone", most(room, 1, 2, 4), 9);
        Checks.dueAll("22: e", Checks.standings(room, 1, 2, 4), -1, -1, -1, -1, 500, 0);
        Document.says(TERMS, "of like ones the first (a THING that does not stand is behind all PLACES).");
        RingPlaces like = Checks.ringOf(WORTHS + "place 500;place 100;");
        Checks.due("22: a with c, or b alone: c and b are worth more", most(like, 0, 2, 1), 8);
        like = Checks.ringOf(WORTHS.replace("worth 2", "worth 3") + "place 500;");
        Checks.due("22: a or c", most(like, 2, 0), 3);
        Checks.dueAll("22: c is told first", Checks.standings(like, 0, 2), -1, -1, 500, 0);
        Checks.due("22: c or a", most(like, 0, 2), 3);
        Checks.dueAll("22: a is told first", Checks.standings(like, 0, 2), 500, 0, -1, -1);
        like.lift(0);
        Checks.due("22: worth 0 stands rather than not", most(like, 3), 0);
        Checks.dueAll("22: d stands", Checks.standings(like, 3), 500, 0);
        like.lift(3);
        Checks.due("22: c's worth goes ahead of d's standing", most(like, 3, 2), 3);
        Checks.dueAll("22: c stands", Checks.standings(like, 3, 2), -1, -1, 500, 0);
        RingPlaces last = Checks.ringOf(WORTHS + "thing e l 200 400 ground 0 0 voice 0 loud 1 bear 9999 worth 1;"
            + "place 300;place 500;place 700;place 900;place 950;place 970;");
        Checks.due("22: a leaves PLACE 0 to e", most(last, 0, 4), 3);
        Checks.dueAll("22: PLACE 1 ahead of not standing", Checks.standings(last, 0, 4), 500, 0, 300, 0);
        RingPlaces sums = Checks.ringOf(WORTHS.replace("bear 9999", "bear 1900").replace("worth 5", "worth 1") + ALONE
            + " worth 3;place 0;place 500;");
        // a and b are worth 3, and so is e alone.
        Checks.due("22: a and b", most(sums, 0, 1, 4), 3);
        Checks.dueAll("22: a is told first", Checks.standings(sums, 0, 1, 4), 0, 0, 500, 0, -1, -1);
        Checks.due("22: or e", most(sums, 4, 0, 1), 3);
        Checks.dueAll("22: e is told first", Checks.standings(sums, 0, 1, 4), -1, -1, -1, -1, 0, 0);
    }

    private static void mostCalls() {
        Document.says("Promise 22", "MOST WORTH of the tape's THINGS (they stand so now): the worth;");
        RingPlaces r = Checks.ringOf(WORTHS + "thing z l 0 9 dead 1 4;place 500;place 100;");
        Checks.stand(r, 0, 100, 0, 3, 700, 0);
        Checks.due("22: b, though a stands", most(r, 1), 5);
        Checks.dueAll("22: a and d stay", Checks.standings(r, 0, 1, 3), 100, 0, 500, 0, 700, 0);
        Checks.due("22: c for a, which is lifted", most(r, 0, 2), 3);
        Checks.dueAll("22: a does not stand any more", Checks.standings(r, 0, 1, 2), -1, -1, 500, 0, 100, 0);
        Checks.due("22: a WRONG one is asked for", r.stand(0, 1000, 0) && most(r, 0) == 0, true);
        Checks.due("22: it does not stand then", r.stands(0, 0), -1);
        RingPlaces voices = Checks.ringOf("land l;thing a l 0 9 voice 3;thing b l 0 9 voice 2;place 9;place 7;");
        Checks.due("22: with VOICES", most(voices, 1, 0), 2);
        Checks.dueAll("22: each with its own", Checks.standings(voices, 0, 1), 9, 3, 9, 2);
        Checks.due("22: the greatest", most(Checks.ringOf("land l;thing a l 0 9 voice 0 worth 9999;thing b l 0 9 voice 0 worth 9999;"
            + "thing c l 0 9 voice 0 worth 9999;thing d l 0 9 voice 0 worth 9999;place 0;"), 0, 1, 2, 3), 39996);
        Document.says("Promise 22", "NONE: not as told, or it is not RIGHT without all of them (the STANDING stays).");
        String ahead = Checks.state(r, 5);
        int[][] wrong = {{}, {0, 1, 2, 3, 0}, {0, 0}, {5}, {4}, {255}, {0, 4}};
        for (int[] row : wrong) {
            Checks.due("22: a row of " + row.length, most(r, row), -1);
        }
        Checks.dueText("22: the STANDING stays", Checks.state(r, 5), ahead);
        Checks.stand(r, 3, 1000, 0);
        ahead = Checks.state(r, 5);
        Checks.due("22: d is WRONG without b", most(r, 1), -1);
        Checks.dueText("22: b stands still", Checks.state(r, 5), ahead);
        Checks.due("22: d is asked for, too", most(r, 1, 3), 5);
    }

    // ---- LET IN

    private static void letInFewest() {
        Document.says(TERMS, "LET IN: a THING that does not stand (not DEAD) and the fewest of those that stand (not DEAD)"
            + " that must be moved, 2 at most:");
        String text = quiet(4, "0 999 voice 0") + "thing n l 100 100 ground 0 0 voice 0 loud 1 bear 9999;"
            + "place 100;place 200;place 300;place 400;";
        RingPlaces none = Checks.ringOf(text);
        Checks.stand(none, 0, 120, 0, 1, 80, 0);
        Checks.due("25: none must be moved", none.letIn(4), 0);
        Checks.dueAll("25: they stay", Checks.standings(none, 0, 1, 4), 120, 0, 80, 0, 100, 0);
        RingPlaces one = Checks.ringOf(text);
        Checks.stand(one, 0, 119, 0, 1, 80, 0);
        Checks.due("25: one must be moved", one.letIn(4), 1);
        Checks.dueAll("25: the one that is too near", Checks.standings(one, 0, 1, 4), 200, 0, 80, 0, 100, 0);
        RingPlaces two = Checks.ringOf(text);
        Checks.stand(two, 0, 119, 0, 1, 81, 0, 2, 250, 0);
        Checks.due("25: two must be moved", two.letIn(4), 2);
        Checks.dueAll("25: both that are too near", Checks.standings(two, 0, 1, 2, 4), 200, 0, 300, 0, 250, 0, 100, 0);
        RingPlaces three = Checks.ringOf(text + "apart 21;");
        Checks.stand(three, 0, 120, 0, 1, 80, 0, 2, 99, 0);
        Checks.due("25: three must be moved", three.letIn(4), -1);
        Checks.dueAll("25: they stay then", Checks.standings(three, 0, 1, 2, 4), 120, 0, 80, 0, 99, 0, -1, -1);
        RingPlaces dead = Checks.ringOf(text + "thing z l 0 999 ground 0 0 voice 0 loud 1 dead 1 4;");
        Checks.stand(dead, 5, 119, 0);
        Checks.due("25: a DEAD one is not moved", dead.letIn(4), -1);
        Checks.stand(dead, 5, 120, 0);
        Checks.due("25: it need not be", dead.letIn(4), 0);
    }

    private static void letInAsFound() {
        Document.says(TERMS, "each moved one and the new one to a PLACE and VOICE as in FOUND, the new one ahead, the moved ones by their"
            + " numbers, so that all is RIGHT:");
        RingPlaces r = Checks.ringOf(quiet(4, "0 999 voice 0 voice 2") + "place 500;place 100;place 300;");
        Checks.due("25: into an empty ring", r.letIn(3), 0);
        Checks.dueAll("25: the lesser PLACE, the lesser VOICE", Checks.standings(r, 3), 500, 0);
        Checks.due("25: the next one", r.letIn(1), 0);
        Checks.dueAll("25: the lesser PLACE ahead of the lesser VOICE", Checks.standings(r, 1, 3), 500, 2, 500, 0);
        RingPlaces s = Checks.ringOf(quiet(3, "0 999 voice 0") + "place 500;place 100;place 300;");
        Checks.stand(s, 0, 1000, 0);
        Checks.due("25: a WRONG one must be moved", s.letIn(2), 1);
        Checks.dueAll("25: the new one ahead", Checks.standings(s, 0, 2), 100, 0, 500, 0);
        s.lift(2);
        Checks.stand(s, 0, 1000, 0, 1, 1000, 0);
        Checks.due("25: two WRONG ones must be moved", s.letIn(2), 2);
        Checks.dueAll("25: by their numbers", Checks.standings(s, 0, 1, 2), 100, 0, 300, 0, 500, 0);
        // b hears the new one by 196 and bears 195, so that it must go where it hears less.
        RingPlaces d = Checks.ringOf("land l;apart 0;thing b l 0 999 ground 0 0 voice 0 bear 195;"
            + "thing n l 100 100 ground 0 0 voice 0 bear 9999;place 0;place 100;place 300;");
        Checks.stand(d, 0, 200, 0);
        Checks.due("25: b would be DROWNED", d.letIn(1), 1);
        Checks.dueAll("25: and goes from 200 to 300", Checks.standings(d, 0, 1), 300, 0, 100, 0);
    }

    private static final String SETS = quiet(4, "0 3599 voice 0") + "thing n l 0 600 ground 0 0 voice 0 loud 1 bear 9999;"
        + "place 100;place 500;place 1000;place 1500;place 2500;";

    private static void letInSets() {
        Document.says(TERMS, "the least set of moved ones (fewest, then as bits), then the first.");
        RingPlaces few = Checks.ringOf(SETS);
        Checks.stand(few, 0, 90, 0, 1, 110, 0, 2, 2000, 0, 3, 510, 0);
        Checks.due("25: d alone, or a and b", few.letIn(4), 1);
        Checks.dueAll("25: d alone", Checks.standings(few, 0, 1, 2, 3, 4), 90, 0, 110, 0, 2000, 0, 1000, 0, 500, 0);
        RingPlaces one = Checks.ringOf(SETS);
        Checks.stand(one, 0, 2000, 0, 1, 510, 0, 2, 110, 0);
        Checks.due("25: b or c", one.letIn(4), 1);
        Checks.dueAll("25: b, though the new one gets a greater PLACE so", Checks.standings(one, 0, 1, 2, 4), 2000, 0, 1000, 0, 110, 0, 500, 0);
        RingPlaces two = Checks.ringOf(SETS);
        Checks.stand(two, 0, 90, 0, 1, 490, 0, 2, 510, 0, 3, 110, 0);
        Checks.due("25: a and d, or b and c", two.letIn(4), 2);
        Checks.dueAll("25: b and c are 6 as bits, a and d 9", Checks.standings(two, 0, 1, 2, 3, 4), 90, 0, 1000, 0, 1500, 0, 110, 0, 500, 0);
        RingPlaces low = Checks.ringOf(SETS);
        Checks.stand(low, 0, 490, 0, 1, 510, 0, 2, 90, 0, 3, 110, 0);
        Checks.due("25: a and b, or c and d", low.letIn(4), 2);
        Checks.dueAll("25: a and b are 3 as bits", Checks.standings(low, 0, 1, 2, 3, 4), 1000, 0, 1500, 0, 90, 0, 110, 0, 500, 0);
        RingPlaces mixed = Checks.ringOf(SETS);
        Checks.stand(mixed, 0, 490, 0, 1, 90, 0, 2, 510, 0, 3, 110, 0);
        Checks.due("25: a and c, or b and d", mixed.letIn(4), 2);
        Checks.dueAll("25: a and c are 5 as bits", Checks.standings(mixed, 0, 1, 2, 3, 4), 1000, 0, 90, 0, 1500, 0, 110, 0, 500, 0);
        RingPlaces first = Checks.ringOf(SETS);
        Checks.stand(first, 0, 300, 0, 1, 3000, 0);
        Checks.due("25: none", first.letIn(4), 0);
        Checks.dueAll("25: the first", Checks.standings(first, 0, 1, 4), 300, 0, 3000, 0, 100, 0);
    }

    private static void letInOtherwise() {
        Document.says(TERMS, "Those that are moved must lie otherwise then (PLACE's degree or VOICE).");
        RingPlaces voice = Checks.ringOf(quiet(1, "0 999 voice 0 voice 1") + quiet(2, "0 999 voice 0").replace("land l;thing a", "thing n")
            + "place 50;");
        Checks.stand(voice, 0, 50, 0);
        Checks.due("25: a changes its VOICE", voice.letIn(1), 1);
        Checks.dueAll("25: and stays at its degree", Checks.standings(voice, 0, 1), 50, 1, 50, 0);
        RingPlaces degree = Checks.ringOf(quiet(1, "0 999 voice 0") + quiet(1, "50 50 voice 0").replace("land l;thing a", "thing n")
            + "place 50;place 70;");
        Checks.stand(degree, 0, 50, 0);
        Checks.due("25: a changes its degree", degree.letIn(1), 1);
        Checks.dueAll("25: and keeps its VOICE", Checks.standings(degree, 0, 1), 70, 0, 50, 0);
        RingPlaces stay = Checks.ringOf(quiet(2, "0 999 voice 0") + quiet(1, "50 50 voice 0").replace("land l;thing a", "thing n")
            + "place 50;place 70;");
        Checks.stand(stay, 0, 70, 0, 1, 50, 0);
        Checks.due("25: a lies at the only other PLACE", stay.letIn(2), -1);
        Checks.dueAll("25: they stay", Checks.standings(stay, 0, 1, 2), 70, 0, 50, 0, -1, -1);
    }

    private static void letInCalls() {
        Document.says("Promise 25", "LET IN a THING: how many others are moved (all stand so now);");
        RingPlaces r = Checks.ringOf(quiet(3, "0 999 voice 0") + "thing n l 100 100 ground 0 0 voice 0 loud 1 bear 9999;"
            + "thing z l 0 999 ground 0 0 voice 0 loud 1 dead 1 4;place 100;place 200;");
        Checks.stand(r, 0, 500, 0, 4, 700, 0);
        Checks.due("25: none is moved", r.letIn(1), 0);
        Checks.dueAll("25: all stand so", Checks.standings(r, 0, 1, 3, 4), 500, 0, 100, 0, -1, -1, 700, 0);
        Checks.due("25: one is moved", r.letIn(3), 1);
        Checks.dueAll("25: all stand so again", Checks.standings(r, 0, 1, 3, 4), 500, 0, 200, 0, 100, 0, 700, 0);
        Document.says("Promise 25", "NONE: it can't be (the STANDING stays);");
        String ahead = Checks.state(r, 5);
        Checks.due("25: no PLACE is left", r.letIn(2), -1);
        Checks.dueText("25: the STANDING stays", Checks.state(r, 5), ahead);
        Checks.due("25: without PLACES", Checks.ringOf(quiet(1, "0 999 voice 0")).letIn(0), -1);
        Checks.due("25: without VOICES", Checks.ringOf(quiet(1, "0 999") + "place 5;").letIn(0), -1);
        RingPlaces full = Checks.ringOf(quiet(16, "0 999 voice 0") + "place 0;place 100;");
        for (int t = 0; t < 15; t++) {
            full.stand(t, 20 + 40 * t, 0);
        }
        Checks.due("25: the last of sixteen", full.letIn(15), 0);
        full.lift(15);
        Checks.stand(full, 0, 80, 0, 1, 110, 0, 2, 3599, 0, 3, 10, 0);
        Checks.due("25: too many are in its way", full.letIn(15), -1);
        Document.says("Promise 25", "-2: no such one, it stands, or is DEAD.");
        int[] none = {5, -1, 16, LEAST, GREATEST, 0, 1, 3, 4};
        for (int t : none) {
            Checks.due("25: letIn " + t, r.letIn(t), -2);
        }
        r.lift(4);
        Checks.due("25: DEAD, and does not stand", r.letIn(4), -2);
        r.lift(0);
        Checks.due("25: it does not stand any more", r.letIn(0), -1);
    }
}
