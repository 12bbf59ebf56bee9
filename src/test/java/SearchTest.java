/** Promises 20 to 22 and 25: FOUND, in how many ways, MOST WORTH, LET IN. */
public final class SearchTest {
    /** Three that share a CELL and one VOICE, and hear all they like: only 'apart' parts them. */
    private static final String THREE = "land l;thing a l 0 999 ground 0 0 voice 1 bear 9999 worth 2;"
        + "thing b l 0 999 ground 0 0 voice 1 bear 9999 worth 5;thing c l 0 999 ground 0 0 voice 1 bear 9999 worth 3;";

    private SearchTest() {
    }

    public static void main(String[] args) {
        firstFound();
        othersStay();
        notFound();
        allWays();
        mostWorth();
        mostOfLikeOnes();
        wrongRows();
        letInWithoutMoves();
        letInByMoves();
        letInOtherwise();
        letInNever();
        Checks.finish();
    }

    private static int find(RingPlaces r, int... row) {
        Checks.row(r, row);
        int answer = r.find();
        Checks.due("20: the tape is empty", r.count(5), 0);
        return answer;
    }

    private static int ways(RingPlaces r, int... row) {
        Checks.row(r, row);
        int answer = r.ways();
        Checks.due("21: the tape is empty", r.count(5), 0);
        return answer;
    }

    private static int most(RingPlaces r, int... row) {
        Checks.row(r, row);
        int answer = r.most();
        Checks.due("22: the tape is empty", r.count(5), 0);
        return answer;
    }

    private static void firstFound() {
        RingPlaces r = Checks.ringOf(THREE + "place 500;place 100;place 300;");
        Checks.due("20: found", find(r, 2, 0, 1), 1);
        Checks.dueAll("20: as told, PLACES by their numbers", Checks.standings(r, 2, 0, 1), 500, 1, 100, 1, 300, 1);
        Checks.due("20: those that stand are lifted first", find(r, 0, 1), 1);
        Checks.dueAll("20: now", Checks.standings(r, 0, 1, 2), 100, 1, 300, 1, 500, 1);
        RingPlaces v = Checks.ringOf("land l;thing a l 0 9 ground 0 0 voice 3 voice 2 bear 9999;"
            + "thing b l 0 9 ground 0 0 voice 2 voice 3 bear 9999;thing c l 0 9 ground 9 9 voice 0;place 5;place 6;");
        Checks.due("20: by VOICES", find(v, 0, 1), 1);
        Checks.dueAll("20: one PLACE, two VOICES", Checks.standings(v, 0, 1), 5, 2, 5, 3);
        Checks.due("20: no CELL in common", find(v, 2), 1);
        Checks.dueAll("20: one PLACE, too", Checks.standings(v, 2), 5, 0);
    }

    private static void othersStay() {
        RingPlaces r = Checks.ringOf(THREE + "thing z l 0 9 ground 0 0 dead 3 9;place 500;place 100;place 300;");
        r.stand(1, 510, 1);
        r.stand(3, 105, 1);
        Checks.due("20: among those that stand", find(r, 0), 1);
        Checks.dueAll("20: the rest stays", Checks.standings(r, 0, 1, 3), 300, 1, 510, 1, 105, 1);
        Checks.due("20: nothing left for another one", find(r, 2), 0);
        Checks.due("20: both anew", find(r, 1, 0), 1);
        Checks.dueAll("20: both", Checks.standings(r, 1, 0), 500, 1, 300, 1);
        r.stand(2, 1000, 1);
        Checks.due("20: one of the others is WRONG", find(r, 0), 0);
        Checks.dueAll("20: the STANDING stays", Checks.standings(r, 0, 1, 2), 300, 1, 500, 1, 1000, 1);
    }

    private static void notFound() {
        RingPlaces r = Checks.ringOf("land l;thing a l 0 9 ground 0 0 voice 0 bear 196 loud 100;"
            + "thing b l 100 109 ground 0 0 voice 0 bear 195;thing c l 0 9 ground 5 5;place 0;place 100;place 300;");
        Checks.due("20: b hears 196 and bears 195", find(r, 0, 1), 0);
        Checks.due("20: nobody stands", r.count(3), 0);
        Checks.due("20: c has no VOICE", find(r, 2), 0);
        r.stand(0, 7, 3);
        Checks.due("20: found anew, though WRONG ahead", find(r, 0), 1);
        Checks.dueAll("20: RIGHT now", Checks.standings(r, 0), 0, 0);
        Checks.due("20: without PLACES", find(Checks.ringOf(THREE), 0), 0);
    }

    private static void allWays() {
        RingPlaces r = Checks.ringOf(THREE + "place 500;place 100;place 300;");
        Checks.due("21: one", ways(r, 0), 3);
        Checks.due("21: two", ways(r, 0, 1), 6);
        Checks.due("21: three", ways(r, 0, 1, 2), 6);
        r.stand(0, 110, 1);
        Checks.due("21: one is in the way", ways(r, 1, 2), 2);
        Checks.due("21: it is lifted", ways(r, 1, 0), 6);
        Checks.dueAll("21: the STANDING stays", Checks.standings(r, 0, 1), 110, 1, -1, -1);
        r.stand(2, 5, 0);
        Checks.due("21: one of the others is WRONG", ways(r, 1), 0);
        StringBuilder free = new StringBuilder("land l;");
        for (int k = 0; k < 4; k++) {
            free.append("thing t").append((char) ('a' + k)).append(" l 0 3599 voice 0 voice 1 voice 2 voice 3;");
        }
        free.append("place 0;place 1;place 2;place 3;place 4;place 5;");
        Checks.due("21: as many as can be", ways(Checks.ringOf(free.toString()), 3, 1, 2, 0), 24 * 24 * 24 * 24);
    }

    private static void mostWorth() {
        RingPlaces r = Checks.ringOf(THREE + "place 500;");
        Checks.due("22: one of three", most(r, 0, 1, 2), 5);
        Checks.dueAll("22: b alone", Checks.standings(r, 0, 1, 2), -1, -1, 500, 1, -1, -1);
        Checks.due("22: b stays, for it is not asked for", most(r, 0, 2), 0);
        Checks.dueAll("22: b still", Checks.standings(r, 0, 1, 2), -1, -1, 500, 1, -1, -1);
        RingPlaces two = Checks.ringOf(THREE + "place 500;place 100;");
        Checks.due("22: two of three", most(two, 0, 1, 2), 8);
        Checks.dueAll("22: b and c", Checks.standings(two, 0, 1, 2), -1, -1, 500, 1, 100, 1);
        two.stand(0, 1000, 1);
        Checks.due("22: a is WRONG and not asked for", most(two, 1), -1);
        Checks.dueAll("22: the STANDING stays", Checks.standings(two, 0, 1, 2), 1000, 1, 500, 1, 100, 1);
        Checks.due("22: a WRONG one is asked for", most(two, 0), 0);
        Checks.due("22: it does not stand now", two.stands(0, 0), -1);
        Checks.due("22: without PLACES", most(Checks.ringOf(THREE), 0, 1), 0);
        RingPlaces lesser = Checks.ringOf("land l;thing a l 0 9 voice 3 voice 0 worth 9999;place 5;place 4;");
        Checks.due("22: alone", most(lesser, 0), 9999);
        Checks.dueAll("22: the lesser PLACE, then the lesser VOICE", Checks.standings(lesser, 0), 5, 0);
    }

    private static void mostOfLikeOnes() {
        RingPlaces r = Checks.ringOf(THREE.replace("worth 2", "worth 3") + "thing d l 0 999 ground 0 0 voice 1 worth 0"
            + " bear 9999;place 500;place 100;");
        Checks.due("22: a and b, or c and b, told so", most(r, 2, 0, 1), 8);
        Checks.dueAll("22: c is ahead of a", Checks.standings(r, 2, 0, 1), 500, 1, -1, -1, 100, 1);
        r.lift(1);
        r.lift(2);
        Checks.due("22: worth 0", most(r, 3), 0);
        Checks.dueAll("22: it stands nevertheless", Checks.standings(r, 3), 500, 1);
    }

    private static void wrongRows() {
        RingPlaces r = Checks.ringOf(THREE + "thing d l 0 9;thing e l 0 9;thing z l 0 9 voice 0 dead 1 4;place 5;");
        int[][] rows = {{}, {0, 1, 2, 3, 4}, {0, 0}, {6}, {255}, {5}, {0, 5}};
        for (int[] row : rows) {
            Checks.due("20: not as told", find(r, row), -1);
            Checks.due("21: not as told", ways(r, row), -1);
            Checks.due("22: not as told", most(r, row), -1);
        }
        Checks.due("20: nobody stands", r.count(3), 0);
    }

    private static void letInWithoutMoves() {
        RingPlaces r = Checks.ringOf(THREE + "thing z l 0 9 ground 0 0 voice 1 dead 1 4;place 500;place 100;");
        Checks.due("25: no such", r.letIn(4) + r.letIn(-1) + r.letIn(Integer.MAX_VALUE), -6);
        Checks.due("25: DEAD", r.letIn(3), -2);
        Checks.due("25: room", r.letIn(1), 0);
        Checks.dueAll("25: the first PLACE", Checks.standings(r, 1), 500, 1);
        Checks.due("25: it stands", r.letIn(1), -2);
        Checks.due("25: room for one more", r.letIn(0), 0);
        Checks.dueAll("25: the other PLACE", Checks.standings(r, 0, 1), 100, 1, 500, 1);
        Checks.due("25: room for no more", r.letIn(2), -1);
        Checks.dueAll("25: the STANDING stays", Checks.standings(r, 0, 1, 2), 100, 1, 500, 1, -1, -1);
    }

    private static void letInByMoves() {
        String text = "land l;thing n l 100 100 ground 0 0 voice 0 bear 9999;"
            + "thing a l 100 200 ground 0 0 voice 0 bear 9999;thing b l 0 999 ground 0 0 voice 0 bear 9999;"
            + "thing c l 0 999 ground 9 9 voice 0;place 100;place 200;place 300;";
        RingPlaces r = Checks.ringOf(text);
        r.stand(1, 100, 0);
        r.stand(3, 50, 0);
        Checks.due("25: a gives way", r.letIn(0), 1);
        Checks.dueAll("25: to 200", Checks.standings(r, 0, 1, 3), 100, 0, 200, 0, 50, 0);
        RingPlaces s = Checks.ringOf(text);
        s.stand(1, 100, 0);
        s.stand(2, 200, 0);
        s.stand(3, 50, 0);
        Checks.due("25: a gives way, and b to a", s.letIn(0), 2);
        Checks.dueAll("25: by one PLACE each", Checks.standings(s, 0, 1, 2, 3), 100, 0, 200, 0, 300, 0, 50, 0);
        RingPlaces w = Checks.ringOf(text);
        w.stand(3, 50, 3);
        Checks.due("25: one that is WRONG is moved", w.letIn(0), 1);
        Checks.dueAll("25: to its first", Checks.standings(w, 0, 3), 100, 0, 100, 0);
        RingPlaces two = Checks.ringOf(THREE + "thing d l 0 9 ground 5 5 voice 0;thing n l 100 100 ground 0 0 voice 1"
            + " bear 9999;place 100;place 300;place 5;");
        two.stand(1, 90, 1);
        two.stand(2, 110, 1);
        Checks.due("25: b and c give way", two.letIn(4), 2);
        Checks.dueAll("25: by their numbers", Checks.standings(two, 4, 1, 2), 100, 1, 300, 1, 5, 1);
    }

    private static void letInOtherwise() {
        String text = "land l;thing a l 0 99 ground 0 0 voice 0 voice 1 bear 9999;"
            + "thing b l 0 99 ground 0 0 voice 0 voice 1 bear 9999;thing n l 0 99 ground 0 0 voice 0 bear 9999;place 50;";
        RingPlaces r = Checks.ringOf(text);
        r.stand(0, 50, 0);
        Checks.due("25: by its VOICE alone", r.letIn(2), 1);
        Checks.dueAll("25: at its degree", Checks.standings(r, 0, 2), 50, 1, 50, 0);
        RingPlaces three = Checks.ringOf(text.replace("voice 0 voice 1", "voice 1 voice 2"));
        three.stand(0, 55, 0);
        three.stand(1, 50, 2);
        Checks.due("25: a is WRONG and too near", three.letIn(2), 1);
        Checks.dueAll("25: b stays", Checks.standings(three, 0, 1, 2), 50, 1, 50, 2, 50, 0);
        RingPlaces bits = Checks.ringOf("land l;thing a l 0 99 ground 0 0 voice 0 bear 9999 loud 10;"
            + "thing b l 0 99 ground 0 0 voice 0 bear 9999 loud 10;thing n l 0 99 ground 0 0 voice 0 bear 100 loud 1;"
            + "place 50;place 99;place 0;apart 9;");
        bits.stand(0, 40, 0);
        bits.stand(1, 60, 0);
        Checks.due("25: room at 99 or at 0, whoever moves", bits.letIn(2), 0);
        Checks.dueAll("25: none is moved", Checks.standings(bits, 0, 1, 2), 40, 0, 60, 0, 99, 0);
    }

    private static void letInNever() {
        RingPlaces r = Checks.ringOf("land l;thing a l 0 99 ground 0 0 voice 0 bear 9999;"
            + "thing z l 0 99 ground 0 0 voice 0 dead 5 9;place 50;");
        r.stand(1, 50, 0);
        Checks.due("25: a DEAD one does not give way", r.letIn(0), -1);
        r.stand(1, 50, 1);
        Checks.due("25: it lies otherwise", r.letIn(0), 0);
        RingPlaces two = Checks.ringOf("land l;thing a l 50 50 ground 0 0 voice 0 bear 9999;"
            + "thing z l 0 99 ground 0 0 voice 0 dead 5 9;place 50;place 90;");
        two.stand(1, 50, 0);
        Checks.due("25: a DEAD one does not give way, though it could", two.letIn(0), -1);
        RingPlaces three = Checks.ringOf("land l;thing a l 0 0 ground 0 0 voice 0;thing b l 1 1 ground 1 1 voice 0;"
            + "thing c l 2 2 ground 2 2 voice 0;thing n l 3 3 ground 3 3 voice 0;place 0;place 1;place 2;place 3;");
        three.stand(0, 9, 0);
        three.stand(1, 9, 0);
        Checks.due("25: two WRONG ones are moved", three.letIn(3), 2);
        three.lift(3);
        three.stand(0, 9, 0);
        three.stand(1, 9, 0);
        three.stand(2, 9, 0);
        Checks.due("25: three would be too many", three.letIn(3), -1);
    }
}
