/** Promises 16 to 19: NEED, ARC, SHORTEST and its order. */
public final class OrdersTest {
    private OrdersTest() {
    }

    public static void main(String[] args) {
        needs();
        arcs();
        wrongRows();
        shortestOrders();
        Checks.finish();
    }

    private static void needs() {
        RingPlaces r = Checks.ringOf("land l;apart 30;thing a l 0 0 ground 0 5;thing b l 0 0 ground 4 9 bear 100;"
            + "thing c l 0 0 ground 20 20;thing d l 0 0 ground 9 9 loud 1;thing e l 0 0 ground 9 9 loud 1 bear 9999;");
        Checks.due("16: a hears b by 391", r.need(0, 1), 391);
        Checks.due("16: both ways", r.need(1, 0), 391);
        Checks.due("16: no CELL in common", r.need(0, 2), 0);
        Checks.due("16: 'apart' at least", r.need(3, 4), 30);
        Checks.due("16: one, no such", r.need(0, 0) + r.need(0, 5) + r.need(-1, 0), -3);
        RingPlaces far = Checks.ringOf("land l;apart 0;thing a l 0 0 ground 0 0 loud 999 sharp 1 bear 551;"
            + "thing b l 0 0 ground 0 0 loud 999 sharp 1 bear 551;thing c l 0 0 ground 0 0 loud 999 sharp 1 bear 550;"
            + "thing d l 0 0 ground 0 0 loud 1 bear 100;thing e l 0 0 ground 0 0 loud 1 bear 100;"
            + "thing f l 0 0 ground 0 0 loud 1 bear 99 sharp 99;thing g l 0 0 ground 0 0 loud 1 bear 90;");
        Checks.due("16: 999000 by 1810 is 551", far.need(0, 1), 1800);
        Checks.due("16: 1800 are not enough", far.need(0, 2), -1);
        Checks.due("16: 0 with 'apart' 0", far.need(3, 4), 0);
        Checks.due("16: one tenth, by the one that bears less", far.need(3, 5), 1);
        Checks.due("16: 1000 by 10 and 5 is 66", far.need(3, 6), 1);
    }

    private static int arc(RingPlaces r, int... row) {
        Checks.row(r, row);
        int answer = r.arc();
        Checks.due("17: the tape is empty", r.count(5), 0);
        return answer;
    }

    private static int shortest(RingPlaces r, int... row) {
        Checks.row(r, row);
        int answer = r.shortest();
        Checks.due("18: the tape is empty", r.count(5), 0);
        return answer;
    }

    /** NEEDS: a b 100, b c 100, a c 300 (loud 'c' and 'a' for one another alone), d with none. */
    private static final String NEEDS = "land l;apart 100;thing a l 0 0 ground 0 0 ground 5 5 loud 301 sharp 1 bear 970;"
        + "thing b l 0 0 ground 0 1 loud 1;thing c l 0 0 ground 1 1 ground 5 5 loud 301 sharp 1 bear 970;"
        + "thing d l 0 0 ground 9 9;thing e l 0 0 ground 5 5 loud 999 sharp 1 bear 0;";

    private static void arcs() {
        RingPlaces r = Checks.ringOf(NEEDS.replace("thing b l 0 0 ground 0 1 loud 1", "thing b l 0 0 ground 0 1 loud 1 bear 9999"));
        Checks.due("16: a b", r.need(0, 1), 100);
        Checks.due("16: b c", r.need(1, 2), 100);
        Checks.due("16: a c", r.need(0, 2), 300);
        Checks.due("17: next ones and those beyond", arc(r, 0, 1, 2), 300);
        Checks.due("17: in that order", arc(r, 1, 0, 2), 400);
        Checks.due("17: one without NEED between", arc(r, 0, 3, 1), 100);
        Checks.due("17: d needs nothing of any", arc(r, 3, 0), 0);
        Checks.due("17: none", arc(r, 0, 4), -1);
        Checks.due("17: none, further on", arc(r, 3, 0, 1, 4), -1);
        Checks.due("18: none", shortest(r, 3, 4, 0), -1);
        RingPlaces many = Checks.ringOf(manyAlike(16));
        Checks.due("17: twelve", arc(many, 0, 1, 2, 3, 4, 5, 6, 7, 8, 9, 10, 11), 3300);
        Checks.due("17: the last one", arc(many, 15, 14), 300);
        Checks.due("17: beyond the whole ring", arc(Checks.ringOf(manyAlike(16).replace("sharp 9", "sharp 1 bear 66")),
            0, 1, 2, 3, 4, 5, 6, 7, 8, 9, 10, 11), 11 * 1483);
    }

    private static String manyAlike(int many) {
        StringBuilder text = new StringBuilder("land l;apart 300;");
        for (int k = 0; k < many; k++) {
            text.append("thing t").append((char) ('a' + k)).append(" l 0 0 ground 0 0 sharp 9;");
        }
        return text.toString();
    }

    private static void wrongRows() {
        RingPlaces r = Checks.ringOf(manyAlike(16));
        Checks.due("17: none told", arc(r), -2);
        Checks.due("17: one", arc(r, 0), -2);
        Checks.due("17: thirteen", arc(r, 0, 1, 2, 3, 4, 5, 6, 7, 8, 9, 10, 11, 12), -2);
        Checks.due("17: alike", arc(r, 0, 1, 0), -2);
        Checks.due("17: no such", arc(r, 0, 16), -2);
        Checks.due("17: no such, above 127", arc(r, 0, 255), -2);
        Checks.due("18: none told", shortest(r), -2);
        Checks.due("18: one", shortest(r, 0), -2);
        Checks.due("18: eight", shortest(r, 0, 1, 2, 3, 4, 5, 6, 7), -2);
        Checks.due("18: alike", shortest(r, 3, 3), -2);
        Checks.due("18: no such", shortest(r, 3, 16), -2);
        Checks.due("19: ahead of any", r.orderAt(0), -1);
    }

    private static int[] order(RingPlaces r) {
        int[] all = new int[9];
        for (int k = 0; k < 9; k++) {
            all[k] = r.orderAt(k - 1);
        }
        return all;
    }

    private static void shortestOrders() {
        RingPlaces r = Checks.ringOf(NEEDS.replace("thing b l 0 0 ground 0 1 loud 1", "thing b l 0 0 ground 0 1 loud 1 bear 9999"));
        Checks.due("18: b between", shortest(r, 2, 1, 0), 300);
        Checks.dueAll("19: the lesser numbers ahead", order(r), -1, 0, 1, 2, -1, -1, -1, -1, -1);
        Checks.due("18: with d", shortest(r, 3, 2, 0), 300);
        Checks.dueAll("19: d behind its lesser ones", order(r), -1, 0, 2, 3, -1, -1, -1, -1, -1);
        Checks.due("18: none", shortest(r, 0, 4), -1);
        Checks.due("18: not as told", shortest(r, 0), -2);
        Checks.due("17: no order by arc", arc(r, 1, 0), 100);
        Checks.dueAll("19: of the latest that was", order(r), -1, 0, 2, 3, -1, -1, -1, -1, -1);
        Checks.read(r, manyAlike(7));
        Checks.dueAll("19: a new RING changes nothing", order(r), -1, 0, 2, 3, -1, -1, -1, -1, -1);
        Checks.due("18: seven", shortest(r, 6, 5, 4, 3, 2, 1, 0), 1800);
        Checks.dueAll("19: seven", order(r), -1, 0, 1, 2, 3, 4, 5, 6, -1);
        Checks.due("19: far off", r.orderAt(Integer.MAX_VALUE) + r.orderAt(Integer.MIN_VALUE), -2);
    }
}
