/** A test for each sentence of NEED, ARC and SHORTEST, and of promises 16 to 19. */
final class OrderSentences {
    private static final String TERMS = "Terms";
    private static final int LEAST = Integer.MIN_VALUE;
    private static final int GREATEST = Integer.MAX_VALUE;
    /** NEEDS: a and b 100, b and c 100, a and c 300; d has no CELL in common with any. */
    private static final String THREE = "land l;apart 100;thing a l 0 0 ground 0 0 ground 5 5 loud 301 sharp 1 bear 970;"
        + "thing b l 0 0 ground 0 1 loud 1 bear 9999;thing c l 0 0 ground 1 1 ground 5 5 loud 301 sharp 1 bear 970;"
        + "thing d l 0 0 ground 9 9;";
    /** NEEDS: a and b 100, a and c 100, b and c 200: a is best between them. */
    private static final String MIDDLE = "land l;apart 100;thing a l 0 0 ground 0 0 loud 1 bear 9999;"
        + "thing b l 0 0 ground 0 0 loud 99 sharp 1 bear 471;thing c l 0 0 ground 0 0 loud 99 sharp 1 bear 471;";
    /** p and q have no NEED; r has no CELL in common with them. */
    private static final String NEVER = "land l;thing p l 0 0 ground 0 0 loud 999 sharp 1 bear 9999;"
        + "thing q l 0 0 ground 0 1 loud 1 bear 0;thing r l 0 0 ground 2 2;";

    private OrderSentences() {
    }

    static void all() {
        needs();
        neededWays();
        needCalls();
        arcs();
        arcCalls();
        shortest();
        shortestCalls();
        orderCalls();
    }

    private static void need(int apart, String a, String b, int want) {
        RingPlaces r = Checks.ringOf("land l;apart " + apart + ";thing a l 0 0 " + a + ";thing b l 0 0 " + b + ";");
        Checks.due("16: 'apart' " + apart + ", " + a + ", " + b, r.need(0, 1), want);
        Checks.due("16: 'apart' " + apart + ", " + b + ", " + a, r.need(1, 0), want);
    }

    private static void needs() {
        Document.says(TERMS, "NEED of two THINGS without a CELL in common: 0;");
        need(300, "ground 0 5 loud 999 sharp 1 bear 0", "ground 6 39 loud 999 sharp 1 bear 0", 0);
        need(300, "ground 0 5 loud 999 sharp 1 bear 0", "ground 5 39 loud 999 sharp 1 bear 0", -1);
        need(300, "ground 0 39", "", 0);
        need(300, "", "", 0);
        need(300, "ground 32 32", "ground 0 0", 0);
        Document.says(TERMS, "else the least number of tenths (0 to 1800), 'apart' at least,");
        String quiet = "ground 0 0 loud 1 sharp 99 bear 100";
        need(0, quiet, quiet, 0);
        need(1, quiet, quiet, 1);
        need(20, quiet, quiet, 20);
        need(300, quiet, quiet, 300);
        need(0, quiet, "ground 0 0 loud 1 bear 99", 1);
        need(1, quiet, "ground 0 0 loud 1 bear 99", 1);
        // 31000 by 10 and 301 is 99, by 310 it is 100; 30000 by 10 and 291 is 99.
        need(300, "ground 0 0 loud 31 sharp 1 bear 9999", "ground 0 0 loud 1 bear 99", 301);
        need(300, "ground 0 0 loud 30 sharp 1 bear 9999", "ground 0 0 loud 1 bear 99", 300);
        need(290, "ground 0 0 loud 30 sharp 1 bear 9999", "ground 0 0 loud 1 bear 99", 291);
        need(300, "ground 0 0 loud 999 sharp 1 bear 551", "ground 0 0 loud 999 sharp 1 bear 551", 1800);
        Document.says(TERMS, "none, if 1800 are not enough.");
        // 999000 by 1810 is 551; 181000 by 1810 is 100, by 1811 it is 99.
        need(0, "ground 0 0 loud 999 sharp 1", "ground 0 0 bear 551", 1800);
        need(0, "ground 0 0 loud 999 sharp 1", "ground 0 0 bear 550", -1);
        need(0, "ground 0 0 loud 181 sharp 1", "ground 0 0 bear 100", 1783);
        need(0, "ground 0 0 loud 181 sharp 1", "ground 0 0 bear 99", -1);
        need(0, "ground 0 0 loud 999 sharp 1", "ground 0 0 bear 0", -1);
    }

    private static void neededWays() {
        Document.says(TERMS, "with which neither REACHES the other (as if with one VOICE) by more than the other bears;");
        need(0, "ground 0 0 loud 300 sharp 2 bear 9999", "ground 0 0 loud 1 bear 120", 1235);
        need(0, "ground 0 0 loud 1 sharp 99 bear 0", "ground 0 0 loud 1 sharp 99 bear 9999", 11);
        need(0, "ground 0 0 bear 100", "ground 0 0 bear 50", 391);
        need(0, "ground 0 0 bear 9999", "ground 0 0 bear 9998", 1);
        need(0, "ground 0 0 voice 0", "ground 0 0 voice 1", 391);
        need(0, "ground 0 0 dead 1 4", "ground 0 0 voice 1", 391);
        RingPlaces r = Checks.ringOf("land l;apart 0;thing a l 0 0 ground 0 0 loud 77 sharp 3 bear 66;"
            + "thing b l 0 0 ground 0 0 loud 230 sharp 7 bear 180;");
        int need = r.need(0, 1);
        Checks.stand(r, 0, 0, 0, 1, need, 1);
        Checks.due("16: VOICES as they stand make no difference", r.need(0, 1), need);
        Checks.stand(r, 1, need, 0);
        Checks.due("12: neither REACHES too far", r.reach(0, 1) <= 180 && r.reach(1, 0) <= 66, true);
        Checks.stand(r, 1, need - 1, 0);
        Checks.due("12: with one less one does", r.reach(0, 1) <= 180 && r.reach(1, 0) <= 66, false);
    }

    private static void needCalls() {
        Document.says("Promise 16", "NEED of two THINGS;");
        RingPlaces r = Checks.ringOf(THREE);
        Checks.dueAll("16: each two", new int[] {r.need(0, 1), r.need(1, 2), r.need(0, 2), r.need(2, 0), r.need(0, 3)},
            100, 100, 300, 300, 0);
        RingPlaces m = Checks.ringOf(MIDDLE);
        Checks.dueAll("16: each two of these", new int[] {m.need(0, 1), m.need(0, 2), m.need(1, 2)}, 100, 100, 200);
        Document.says("Promise 16", "NONE: none, no such ones, or one.");
        Checks.due("16: none", Checks.ringOf(NEVER).need(0, 1), -1);
        int[][] none = {{0, 0}, {3, 3}, {0, 4}, {4, 0}, {-1, 0}, {0, -1}, {4, 4}, {16, 0}, {LEAST, 0}, {0, GREATEST}};
        for (int[] one : none) {
            Checks.due("16: need " + one[0] + ", " + one[1], r.need(one[0], one[1]), -1);
        }
    }

    private static int arc(RingPlaces r, int... row) {
        Checks.row(r, row);
        return r.arc();
    }

    private static int shortest(RingPlaces r, int... row) {
        Checks.row(r, row);
        return r.shortest();
    }

    private static int[] order(RingPlaces r) {
        int[] all = new int[8];
        for (int k = 0; k < 8; k++) {
            all[k] = r.orderAt(k);
        }
        return all;
    }

    private static String alike(int many, String each) {
        StringBuilder text = new StringBuilder("land l;apart 300;");
        for (int k = 0; k < many; k++) {
            text.append("thing t").append((char) ('a' + k)).append(" l 0 0 ground 0 0 ").append(each).append(';');
        }
        return text.toString();
    }

    private static void arcs() {
        Document.says(TERMS, "ARC of a row of THINGS (2 to 12) one behind the other: the least span from the first to the last"
            + " so that any two are NEED or more from one another,");
        RingPlaces r = Checks.ringOf(THREE);
        Checks.due("17: two", arc(r, 0, 1), 100);
        Checks.due("17: the first and the last need more than their neighbours", arc(r, 0, 1, 2), 300);
        Checks.due("17: neighbours need more", arc(r, 1, 0, 2), 400);
        Checks.due("17: nothing between them that needs any", arc(r, 0, 3, 1), 100);
        Checks.due("17: one that needs nothing is last", arc(r, 0, 1, 3), 100);
        Checks.due("17: one that needs nothing is first", arc(r, 3, 0, 1), 100);
        Checks.due("17: nothing needed", arc(r, 3, 1), 0);
        RingPlaces many = Checks.ringOf(alike(16, "sharp 9"));
        Checks.due("17: one is no row", arc(many, 0), -2);
        Checks.due("17: two", arc(many, 15, 14), 300);
        Checks.due("17: twelve", arc(many, 0, 1, 2, 3, 4, 5, 6, 7, 8, 9, 10, 11), 3300);
        Checks.due("17: thirteen", arc(many, 0, 1, 2, 3, 4, 5, 6, 7, 8, 9, 10, 11, 12), -2);
        RingPlaces dead = Checks.ringOf("land l;thing a l 0 0 ground 0 0;thing z l 0 0 ground 0 0 dead 1 4;");
        Checks.due("17: a DEAD one, too", arc(dead, 1, 0), 391);
        Checks.due("18: a DEAD one, too", shortest(dead, 1, 0), 391);
        Document.says(TERMS, "all in one direction (and none of them goes round).");
        RingPlaces far = Checks.ringOf(alike(12, "loud 999 sharp 1 bear 551"));
        Checks.due("16: half of the ring", far.need(0, 1), 1800);
        Checks.due("17: the first and the last are at one degree, but not so here", arc(far, 0, 1, 2), 3600);
        Checks.due("17: far beyond the ring", arc(far, 0, 1, 2, 3, 4, 5, 6, 7, 8, 9, 10, 11), 11 * 1800);
    }

    private static void arcCalls() {
        Document.says("Promise 17", "ARC of the tape's THINGS (unlike) in that order;");
        RingPlaces r = Checks.ringOf(MIDDLE);
        Checks.due("17: in that order", arc(r, 0, 1, 2), 300);
        Checks.due("17: in another", arc(r, 1, 0, 2), 200);
        Checks.due("17: in the other direction", arc(r, 2, 1, 0), 300);
        Checks.due("17: alike", arc(r, 0, 1, 0), -2);
        Checks.due("17: alike from the begin", arc(r, 0, 0), -2);
        Document.says("Promise 17", "NONE: some two have no NEED;");
        RingPlaces n = Checks.ringOf(NEVER);
        Checks.due("17: these two", arc(n, 0, 1), -1);
        Checks.due("17: the last two", arc(n, 2, 1, 0), -1);
        Checks.due("17: the first and the last", arc(n, 0, 2, 1), -1);
        Checks.due("17: without one of them", arc(n, 0, 2), 0);
        Document.says("Promise 17", "-2: not as told.");
        int[][] wrong = {{}, {0}, {0, 3}, {3, 0}, {0, 1, 255}, {128, 0}, {0, 1, 2, 0}, {0, 16}};
        for (int[] row : wrong) {
            Checks.due("17: a row of " + row.length, arc(r, row), -2);
        }
        Checks.due("17: not as told, and no NEED", arc(n, 0, 1, 3), -2);
        RingPlaces many = Checks.ringOf(alike(16, "sharp 9"));
        Checks.due("17: the last of sixteen", arc(many, 15, 0), 300);
        Checks.due("17: no 17th", arc(many, 16, 0), -2);
        Checks.due("17: twenty bytes", many.feed(0x00010203, 0x04050607, 0x08090a0b, 0x0c0d0e0f, 0x10111213) == 20 && many.arc() == -2, true);
    }

    private static void shortest() {
        Document.says(TERMS, "SHORTEST of all orders (7 THINGS at most);");
        RingPlaces r = Checks.ringOf(MIDDLE);
        Checks.due("18: a between them", shortest(r, 0, 1, 2), 200);
        Checks.dueAll("19: its order", order(r), 1, 0, 2, -1, -1, -1, -1, -1);
        RingPlaces seven = Checks.ringOf(alike(8, "sharp 9"));
        Checks.due("18: seven", shortest(seven, 7, 5, 4, 3, 2, 1, 0), 1800);
        Checks.dueAll("19: seven", order(seven), 0, 1, 2, 3, 4, 5, 7, -1);
        Checks.due("18: eight", shortest(seven, 0, 1, 2, 3, 4, 5, 6, 7), -2);
        Document.says(TERMS, "of like ones the first (THING by THING, the lesser number).");
        Checks.due("18: told otherwise", shortest(r, 2, 1, 0), 200);
        Checks.dueAll("19: 1 0 2 is ahead of 2 0 1", order(r), 1, 0, 2, -1, -1, -1, -1, -1);
        Checks.due("18: two of them", shortest(r, 2, 1), 200);
        Checks.dueAll("19: the lesser ahead", order(r), 1, 2, -1, -1, -1, -1, -1, -1);
        RingPlaces d = Checks.ringOf(THREE);
        Checks.due("18: d may stand anywhere", shortest(d, 3, 2, 1, 0), 300);
        Checks.dueAll("19: it stands behind those with lesser numbers", order(d), 0, 1, 2, 3, -1, -1, -1, -1);
        Checks.due("18: b between or beside", shortest(d, 2, 0, 3), 300);
        Checks.dueAll("19: 0 2 3 ahead of 0 3 2", order(d), 0, 2, 3, -1, -1, -1, -1, -1);
    }

    private static void shortestCalls() {
        Document.says("Promise 18", "SHORTEST of the tape's THINGS (2 to 7);");
        RingPlaces r = Checks.ringOf(alike(16, "sharp 9"));
        Checks.due("18: two", shortest(r, 15, 3), 300);
        Checks.due("18: seven", shortest(r, 15, 14, 13, 12, 11, 10, 9), 1800);
        Document.says("Promise 18", "NONE: some two have no NEED;");
        RingPlaces n = Checks.ringOf(NEVER);
        Checks.due("18: these two", shortest(n, 0, 1), -1);
        Checks.due("18: two of three", shortest(n, 0, 2, 1), -1);
        Checks.due("18: without one of them", shortest(n, 2, 1), 0);
        Document.says("Promise 18", "-2: not as told.");
        int[][] wrong = {{}, {0}, {0, 16}, {255, 0}, {0, 0}, {0, 1, 1}, {0, 1, 2, 3, 4, 5, 6, 7}, {0, 1, 2, 3, 4, 5, 6, 7, 8, 9, 10, 11, 12}};
        for (int[] row : wrong) {
            Checks.due("18: a row of " + row.length, shortest(r, row), -2);
        }
        Checks.due("18: not as told, and no NEED", shortest(n, 0, 1, 3), -2);
    }

    private static void orderCalls() {
        Document.says("Promise 19", "The k-th THING of the order by the latest shortest() that was 0 or above;");
        RingPlaces r = Checks.ringOf(THREE + "thing e l 0 0 ground 5 5 loud 999 sharp 1 bear 0;");
        shortest(r, 2, 1, 0);
        Checks.dueAll("19: three", order(r), 0, 1, 2, -1, -1, -1, -1, -1);
        Checks.due("18: none", shortest(r, 0, 4), -1);
        Checks.due("18: not as told", shortest(r, 3), -2);
        Checks.due("17: an ARC", arc(r, 3, 1), 0);
        Checks.dueAll("19: it stays", order(r), 0, 1, 2, -1, -1, -1, -1, -1);
        Checks.due("18: 0", shortest(r, 3, 1), 0);
        Checks.dueAll("19: of two now", order(r), 1, 3, -1, -1, -1, -1, -1, -1);
        r.ring();
        Checks.dueAll("19: an empty RING takes nothing back", order(r), 1, 3, -1, -1, -1, -1, -1, -1);
        Document.says("Promise 19", "NONE: there is none such, or ahead of any.");
        Checks.due("19: -1", r.orderAt(-1), -1);
        Checks.due("19: 2 of two", r.orderAt(2), -1);
        Checks.due("19: least", r.orderAt(LEAST), -1);
        Checks.due("19: greatest", r.orderAt(GREATEST), -1);
        RingPlaces ahead = Checks.ringOf(NEVER);
        Checks.due("19: ahead of any", ahead.orderAt(0), -1);
        shortest(ahead, 0, 1);
        shortest(ahead, 0);
        Checks.due("19: none was 0 or above", ahead.orderAt(0), -1);
        shortest(ahead, 0, 2);
        Checks.dueAll("19: now one was", order(ahead), 0, 2, -1, -1, -1, -1, -1, -1);
    }
}
