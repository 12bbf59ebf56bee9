/** A test for each sentence of Terms (4), and of promises 29 to 34: PAPERS, SHARES, DRIFT, MEETS. */
final class PaperSentences {
    private static final String TERMS = "Terms";
    private static final int LEAST = Integer.MIN_VALUE;
    private static final int GREATEST = Integer.MAX_VALUE;
    private static final String TWO = "land l;thing a l 0 9 ground 0 0;thing b l 0 9 ground 0 0;";

    private PaperSentences() {
    }

    static void all() {
        good();
        goodCalls();
        ranks();
        rights();
        rightCalls();
        barred();
        middles();
        barring();
        cleared();
        barredCalls();
        shares();
        fewest();
        sharesCalls();
        drift();
        driftCalls();
        meets();
        meetsCalls();
    }

    /** DAYS, each with whether such a paper is GOOD then. */
    private static void good(String paper, int... days) {
        RingPlaces r = Checks.ringOf("land l;thing a l 0 9;paper a " + paper + ";");
        for (int k = 0; k < days.length; k += 2) {
            Checks.due("29: paper " + paper + " on " + days[k], r.good(0, days[k]), days[k + 1]);
        }
    }

    private static void good() {
        Document.says(TERMS, "PAPERS. On a DAY a THING's paper is GOOD, if it was told on that DAY or ahead, and the DAY is BY at most,"
            + " or the THING was there on BY or ahead.");
        good("5 50", 0, 0, 4, 0, 5, 1, 50, 1, 51, 0, 999, 0);
        good("5 50 there 50", 4, 0, 5, 1, 50, 1, 51, 1, 999, 1);
        good("5 50 there 51", 4, 0, 5, 1, 50, 1, 51, 0, 52, 0, 999, 0);
        good("5 50 there 0", 0, 0, 4, 0, 5, 1, 51, 1, 999, 1);
        good("0 0", 0, 1, 1, 0, 999, 0);
        good("0 0 there 0", 0, 1, 1, 1, 999, 1);
        good("0 0 there 1", 0, 1, 1, 0, 2, 0);
        good("999 999", 0, 0, 998, 0, 999, 1);
        good("0 999", 0, 1, 999, 1);
        Checks.due("29: without a paper", Checks.ringOf(TWO).good(0, 5), 0);
    }

    private static void goodCalls() {
        Document.says("Promise 29", "Whether THING t's paper is GOOD on a DAY (0 to 999): 1, 0;");
        RingPlaces r = Checks.ringOf(TWO + "paper b 0 998;");
        Checks.due("29: DAY 0", r.good(1, 0), 1);
        Checks.due("29: DAY 998", r.good(1, 998), 1);
        Checks.due("29: DAY 999", r.good(1, 999), 0);
        Checks.due("29: the other one", r.good(0, 0), 0);
        Document.says("Promise 29", "NONE: no such ones.");
        int[][] none = {{1, -1}, {1, 1000}, {2, 5}, {-1, 5}, {16, 5}, {LEAST, 5}, {GREATEST, 5}, {1, LEAST}, {1, GREATEST}, {2, 1000}};
        for (int[] one : none) {
            Checks.due("29: good " + one[0] + ", " + one[1], r.good(one[0], one[1]), -1);
        }
    }

    /** RIGHT of a over b on a DAY. */
    private static void right(String text, int day, int want) {
        RingPlaces r = Checks.ringOf(TWO + text);
        Checks.due("30: " + text + " on " + day, r.right(0, 1, day), want);
        Checks.due("30: " + text + " on " + day + ", told the other way", r.right(1, 0, day), -want);
    }

    private static void ranks() {
        Document.says(TERMS, "RANK by 'paper': the DAY of its GOOD paper;");
        right("paper a 5 50;paper b 6 50;", 6, 1);
        right("paper a 6 50;paper b 5 50;", 6, -1);
        right("paper a 5 9;paper b 6 50;", 9, 1);
        right("paper a 5 9;paper b 6 50;", 10, -1);
        right("paper a 5 9 there 9;paper b 6 50;", 10, 1);
        right("paper a 5 50 there 40;paper b 6 50 there 1;", 45, 1);
        right("first paper;paper a 5 50 there 40;paper b 6 50 there 1;", 45, 1);
        Document.says(TERMS, "by 'there': the DAY it was there, if that is the DAY or ahead;");
        right("first there;paper a 6 50 there 20;paper b 5 50 there 21;", 21, 1);
        right("first there;paper a 5 50 there 21;paper b 6 50 there 20;", 21, -1);
        right("first there;paper a 6 50 there 20;paper b 5 50 there 19;", 18, 0);
        right("first there;paper a 6 50 there 20;paper b 5 50 there 19;", 19, -1);
        right("first there;paper a 6 50 there 20;paper b 5 50 there 30;", 19, 0);
        right("first there;paper a 6 50 there 20;paper b 5 50 there 30;", 20, 1);
        right("first there;paper a 500 509 there 20;paper b 0 999 there 30;", 100, 1);
        right("first there;paper a 0 9 there 20;paper b 0 999 there 30;", 100, 1);
        right("first there;paper a 0 9 there 0;", 0, 1);
        Document.says(TERMS, "none without.");
        right("paper b 5 50;", 5, -1);
        right("paper b 5 50;", 4, 0);
        right("paper a 5 50;", 50, 1);
        right("paper a 5 50;", 51, 0);
        right("first there;paper a 5 50;paper b 5 50 there 7;", 6, 0);
        right("first there;paper a 5 50;paper b 5 50 there 7;", 7, -1);
        right("first there;paper a 5 50;", 5, 0);
    }

    private static void rights() {
        Document.says(TERMS, "One has RIGHT over another one on a DAY, if NEED of both is above 0 (or there is none),");
        String quiet = "thing a l 0 9 ground 0 0 loud 1 bear 9999;thing b l 0 9 ground 0 0 loud 1 bear 9999;paper a 0 9;";
        Checks.due("30: NEED 0", Checks.ringOf("land l;apart 0;" + quiet).right(0, 1, 5), 0);
        Checks.due("30: NEED 1", Checks.ringOf("land l;apart 1;" + quiet).right(0, 1, 5), 1);
        Checks.due("30: NEED 1, the other way", Checks.ringOf("land l;apart 1;" + quiet).right(1, 0, 5), -1);
        Checks.due("30: no CELL in common", Checks.ringOf("land l;thing a l 0 9 ground 0 0;thing b l 0 9 ground 1 1;paper a 0 9;")
            .right(0, 1, 5), 0);
        RingPlaces none = Checks.ringOf("land l;thing a l 0 9 ground 0 0 loud 999 sharp 1;thing b l 0 9 ground 0 0 bear 0;paper b 0 9;");
        Checks.due("16: no NEED", none.need(0, 1), -1);
        Checks.due("30: there is none", none.right(0, 1, 5), -1);
        Document.says(TERMS, "and its RANK is less, or the other has none (of like ones the lesser number);");
        right("paper a 7 50;paper b 8 50;", 20, 1);
        right("paper a 8 50;paper b 7 50;", 20, -1);
        right("paper a 7 50;paper b 7 50;", 20, 1);
        right("paper a 7 50;", 20, 1);
        right("paper b 7 50;", 20, -1);
        right("paper a 0 50;paper b 0 50;", 0, 1);
        right("first there;paper a 7 50 there 9;paper b 6 50 there 9;", 20, 1);
        right("first there;paper a 7 50 there 999;paper b 6 50 there 999;", 999, 1);
        Document.says(TERMS, "with no RANKS neither.");
        right("", 20, 0);
        right("paper a 7 50;paper b 8 50;", 6, 0);
        right("paper a 7 50;paper b 8 50;", 51, 0);
        right("first there;paper a 7 50;paper b 8 50;", 20, 0);
    }

    private static void rightCalls() {
        Document.says("Promise 30", "RIGHT of a over b on a DAY: 1, -1 it is b's, 0 neither's;");
        right("paper a 7 50;paper b 8 50;", 7, 1);
        right("paper a 8 50;paper b 7 50;", 7, -1);
        right("paper a 7 50;paper b 8 50;", 0, 0);
        right("paper a 7 999;paper b 8 999;", 999, 1);
        Document.says("Promise 30", "-2: no such ones, or one.");
        RingPlaces r = Checks.ringOf(TWO + "paper a 0 999;");
        int[][] none = {{0, 0, 5}, {1, 1, 5}, {0, 2, 5}, {2, 0, 5}, {-1, 0, 5}, {0, -1, 5}, {16, 0, 5}, {0, 1, -1}, {0, 1, 1000},
            {LEAST, 0, 5}, {0, GREATEST, 5}, {0, 1, LEAST}, {0, 1, GREATEST}, {0, 0, 1000}};
        for (int[] one : none) {
            Checks.due("30: right " + one[0] + ", " + one[1] + ", " + one[2], r.right(one[0], one[1], one[2]), -2);
        }
    }

    // ---- BARRED

    /** NEED of t with p and with q: 391. p's ARC has its middle at 600, q's at 0. */
    private static final String BARS = "land l;thing t l 0 3000 ground 0 0;thing p l 500 701 ground 0 0;thing q l 3500 100 ground 0 0;"
        + "place 209;place 210;place 990;place 991;place 3300;place 0;";

    private static void barred() {
        Document.says(TERMS, "BARRED for a THING on a DAY: PLACES in its ARC that are less than NEED APART from the middle of the ARC"
            + " of some other THING");
        RingPlaces p = Checks.ringOf(BARS + "paper p 0 99;");
        Checks.due("31: less than 391 from 600", p.barred(0, 5, 0), 0b000110);
        Checks.due("31: nothing for p itself", p.barred(1, 5, 0), 0);
        RingPlaces q = Checks.ringOf(BARS + "paper q 0 99;");
        // 3300 is 300 from 0, but not in t's ARC.
        Checks.due("31: less than 391 from 0", q.barred(0, 5, 0), 0b100011);
        RingPlaces wide = Checks.ringOf(BARS.replace("0 3000", "3300 3000") + "paper q 0 99;");
        Checks.due("31: 3300 is the begin of its ARC", wide.barred(0, 5, 0), 0b110011);
        RingPlaces ends = Checks.ringOf(BARS.replace("0 3000", "210 989") + "paper p 0 99;");
        Checks.due("31: 990 is behind its ARC", ends.barred(0, 5, 0), 0b000010);
        RingPlaces both = Checks.ringOf(BARS + "paper p 0 99;paper q 0 99;");
        Checks.due("31: of either", both.barred(0, 5, 0), 0b100111);
        RingPlaces over = Checks.ringOf("land l;thing t l 0 3599 ground 0 0;thing q l 10 10 ground 0 0;paper q 0 9;"
            + "place 3219;place 3220;place 400;place 401;");
        Checks.due("31: round over 0", over.barred(0, 5, 0), 0b0110);
    }

    /** NEED is 1, so that the middle itself is BARRED alone. */
    private static void middle(String arc, int middle) {
        RingPlaces r = Checks.ringOf("land l;apart 1;thing t l 0 3599 ground 0 0 loud 1 bear 9999;thing p l " + arc
            + " ground 0 0 loud 1 bear 9999;paper p 0 9;place " + (middle + 3599) % 3600 + ";place " + middle + ";place "
            + (middle + 1) % 3600 + ";");
        Checks.due("31: the middle of " + arc + " is " + middle, r.barred(0, 5, 0), 0b010);
    }

    private static void middles() {
        Document.says(TERMS, "(FROM and half of the way to TO, cut)");
        middle("500 700", 600);
        middle("500 701", 600);
        middle("500 702", 601);
        middle("7 7", 7);
        middle("0 0", 0);
        middle("0 1", 0);
        middle("0 3599", 1799);
        middle("3599 3599", 3599);
        middle("3599 0", 3599);
        middle("3599 1", 0);
        middle("3599 2", 0);
        middle("3598 1", 3599);
        middle("3500 100", 0);
        middle("2 0", 1801);
        middle("1 0", 1800);
        middle("1801 1", 2701);
    }

    private static void barring() {
        Document.says(TERMS, "with a GOOD paper that has RIGHT over it and was not there by that DAY");
        RingPlaces r = Checks.ringOf(BARS + "paper p 5 50;");
        Checks.due("31: no paper yet", r.barred(0, 4, 0), 0);
        Checks.due("31: from its DAY on", r.barred(0, 5, 0), 0b000110);
        Checks.due("31: until BY", r.barred(0, 50, 0), 0b000110);
        Checks.due("31: no more behind BY", r.barred(0, 51, 0), 0);
        RingPlaces rank = Checks.ringOf(BARS + "paper p 5 50;paper t 4 9;");
        Checks.due("31: t is ahead", rank.barred(0, 9, 0), 0);
        Checks.due("31: t is no more", rank.barred(0, 10, 0), 0b000110);
        RingPlaces turned = Checks.ringOf("land l;thing t l 0 3000 ground 0 0;thing p l 500 1500 ground 0 0;paper t 4 9;paper p 5 50;"
            + "place 1109;place 1110;");
        Checks.due("31: t bars for p", turned.barred(1, 9, 0), 0b10);
        Checks.due("31: and p for t then", turned.barred(0, 10, 0), 0b11);
        RingPlaces like = Checks.ringOf(BARS + "paper p 5 50;paper t 5 50;");
        Checks.due("31: of like ones the lesser number", like.barred(0, 9, 0), 0);
        RingPlaces there = Checks.ringOf(BARS + "paper p 5 50 there 20;");
        Checks.due("31: not there yet", there.barred(0, 19, 0), 0b000110);
        Checks.due("31: there by that DAY", there.barred(0, 20, 0), 0);
        Checks.due("31: there since", there.barred(0, 60, 0), 0);
        RingPlaces late = Checks.ringOf(BARS + "paper p 5 50 there 70;");
        Checks.due("31: not there by BY", late.barred(0, 50, 0), 0b000110);
        Checks.due("31: no GOOD paper any more", late.barred(0, 51, 0), 0);
        RingPlaces first = Checks.ringOf(BARS + "first there;paper p 5 50 there 20;");
        Checks.due("31: no RANK by 'there' yet", first.barred(0, 19, 0), 0);
        Checks.due("31: there already", first.barred(0, 20, 0), 0);
        RingPlaces none = Checks.ringOf("land l;apart 0;thing t l 0 3599 ground 0 0;thing p l 0 9 ground 1 1;paper p 0 9;place 4;");
        Checks.due("31: NEED 0", none.barred(0, 5, 0), 0);
        RingPlaces dead = Checks.ringOf(BARS.replace("500 701 ground 0 0", "500 701 ground 0 0 dead 1 4") + "paper p 5 50;");
        Checks.due("31: a DEAD one with a GOOD paper", dead.barred(0, 5, 0), 0b000110);
        Document.says(TERMS, "(where there is no NEED: all of them).");
        String loud = "land l;thing t l 0 999 ground 0 0;thing p l 0 9 ground 0 0 loud 999 sharp 1 bear 0;paper p 0 9;"
            + "place 999;place 1000;place 0;place 3599;place 500;";
        RingPlaces all = Checks.ringOf(loud);
        Checks.due("16: no NEED", all.need(0, 1), -1);
        Checks.due("31: all in its ARC", all.barred(0, 5, 0), 0b10101);
        Checks.due("31: behind BY none", all.barred(0, 10, 0), 0);
    }

    private static void cleared() {
        Document.says(TERMS, "CLEARED: those that are BARRED, but by none of which a 'there' is told.");
        RingPlaces none = Checks.ringOf(BARS + "paper p 5 50;");
        Checks.due("31: no 'there' is told", none.barred(0, 5, 1), 0b000110);
        RingPlaces told = Checks.ringOf(BARS + "paper p 5 50 there 20;");
        Checks.due("31: a 'there' is told", told.barred(0, 5, 1), 0);
        Checks.due("31: BARRED nevertheless", told.barred(0, 5, 0), 0b000110);
        RingPlaces both = Checks.ringOf(BARS + "paper p 5 50 there 20;paper q 5 50;");
        Checks.due("31: BARRED by p or q", both.barred(0, 5, 0), 0b100111);
        Checks.due("31: by q alone", both.barred(0, 5, 1), 0b100001);
        Checks.due("31: p is there, and bars no more", both.barred(0, 20, 1), 0b100011);
        RingPlaces alone = Checks.ringOf(BARS + "paper q 5 50;");
        Checks.due("31: BARRED by q alone", alone.barred(0, 5, 0), 0b100011);
        Checks.due("31: by q alone, all are CLEARED", alone.barred(0, 5, 1), 0b100011);
        RingPlaces turned = Checks.ringOf(BARS + "paper p 5 50;paper q 5 50 there 20;");
        Checks.due("31: by p alone", turned.barred(0, 5, 1), 0b000100);
        RingPlaces late = Checks.ringOf(BARS + "paper p 5 50 there 999;paper q 5 50 there 998;");
        Checks.due("31: by those alone of which a 'there' is told", late.barred(0, 5, 1), 0);
        RingPlaces itself = Checks.ringOf(BARS + "paper p 5 50;paper t 6 50 there 20;");
        Checks.due("31: its own 'there' makes no difference", itself.barred(0, 6, 1), 0b000110);
        RingPlaces zero = Checks.ringOf("land l;thing p l 500 701 ground 0 0;thing t l 0 3000 ground 0 0;paper p 5 50;place 600;");
        Checks.due("31: by the first THING", zero.barred(1, 5, 1), 0b1);
    }

    private static void barredCalls() {
        Document.says("Promise 31", "PLACES BARRED for THING t on a DAY (what 0), CLEARED of these (1), as bits;");
        RingPlaces r = Checks.ringOf(BARS + "paper p 0 999 there 999;paper q 0 999;");
        Checks.due("31: BARRED", r.barred(0, 0, 0), 0b100111);
        Checks.due("31: CLEARED", r.barred(0, 0, 1), 0b100001);
        Checks.due("31: the last DAY", r.barred(0, 999, 0), 0b100011);
        Checks.due("31: without PLACES", Checks.ringOf(TWO + "paper a 0 9;").barred(1, 5, 0), 0);
        Document.says("Promise 31", "NONE: no such ones.");
        int[][] none = {{3, 5, 0}, {-1, 5, 0}, {16, 5, 1}, {0, -1, 0}, {0, 1000, 0}, {0, 5, 2}, {0, 5, -1}, {LEAST, 5, 0},
            {GREATEST, 5, 1}, {0, LEAST, 0}, {0, GREATEST, 1}, {0, 5, LEAST}, {0, 5, GREATEST}};
        for (int[] one : none) {
            Checks.due("31: barred " + one[0] + ", " + one[1] + ", " + one[2], r.barred(one[0], one[1], one[2]), -1);
        }
    }

    // ---- SHARES

    private static void shares(String what, RingPlaces r, int lands, int moves) {
        Checks.due("32: LANDS, " + what, r.shares(0), lands);
        Checks.due("32: fewest, " + what, r.shares(1), moves);
    }

    private static void shares() {
        Document.says(TERMS, "SHARES: each LAND with a THING gets one of its THINGS (not DEAD) a PLACE of its own in that one's ARC"
            + " (by ARCS alone): how many LANDS at most;");
        shares("nothing told", new RingPlaces(), 0, 0);
        shares("without PLACES", Checks.ringOf("land k;thing a k 0 9;"), 0, 0);
        shares("a LAND without a THING", Checks.ringOf("land k;land l;thing a k 0 9;place 5;place 6;"), 1, 1);
        shares("one LAND with two THINGS", Checks.ringOf("land k;thing a k 0 9;thing b k 0 9;place 5;place 6;"), 1, 1);
        shares("a DEAD one", Checks.ringOf("land k;thing a k 0 9 dead 1 4;place 5;"), 0, 0);
        shares("a DEAD one and another", Checks.ringOf("land k;thing a k 0 9 dead 1 4;thing b k 5 9;place 5;"), 1, 1);
        shares("two LANDS, one PLACE", Checks.ringOf("land k;land l;thing a k 0 9;thing b l 0 9;place 5;"), 1, 1);
        shares("FROM", Checks.ringOf("land k;thing a k 5 9;place 5;"), 1, 1);
        shares("ahead of FROM", Checks.ringOf("land k;thing a k 6 9;place 5;"), 0, 0);
        shares("TO", Checks.ringOf("land k;thing a k 1 5;place 5;"), 1, 1);
        shares("behind TO", Checks.ringOf("land k;thing a k 1 4;place 5;"), 0, 0);
        shares("over 0", Checks.ringOf("land k;thing a k 3599 0;place 0;"), 1, 1);
        shares("k must leave 5 to l", Checks.ringOf("land k;land l;thing a k 0 9;thing b l 5 5;place 5;place 6;"), 2, 2);
        shares("all three must make room", Checks.ringOf("land k;land l;land m;thing a k 1 2;thing b l 2 3;thing c m 1 1;"
            + "place 1;place 2;place 3;"), 3, 3);
        shares("by its second THING", Checks.ringOf("land k;land l;thing a k 5 5;thing b k 6 6;thing c l 5 5;place 5;place 6;"), 2, 2);
        RingPlaces near = Checks.ringOf("land k;land l;apart 300;thing a k 0 9 ground 0 0 bear 0;thing b l 0 9 ground 0 0 bear 0;place 5;place 6;");
        shares("too near, drowned, without VOICES", near, 2, 2);
        shares("eight LANDS, six PLACES", Checks.ringOf("land a;land b;land c;land d;land e;land f;land g;land h;"
            + "thing ta a 0 9;thing tb b 0 9;thing tc c 0 9;thing td d 0 9;thing te e 0 9;thing tf f 0 9;thing tg g 0 9;thing th h 0 9;"
            + "place 0;place 1;place 2;place 3;place 4;place 5;"), 6, 6);
        shares("the last LAND alone", Checks.ringOf("land a;land b;land c;land d;land e;land f;land g;land h;thing th h 0 9;place 4;"), 1, 1);
    }

    private static void fewest() {
        Document.says(TERMS, "the fewest of those THINGS that do not lie there already (at that PLACE's degree), of all ways for so many LANDS.");
        String two = "land k;land l;thing a k 0 9;thing b l 0 19;place 5;place 15;";
        RingPlaces r = Checks.ringOf(two);
        shares("nobody stands", r, 2, 2);
        Checks.stand(r, 1, 5, 0);
        shares("b lies where a must", r, 2, 2);
        Checks.stand(r, 0, 5, 3);
        shares("a lies there, whatever its VOICE", r, 2, 1);
        Checks.stand(r, 1, 15, 2);
        shares("both lie there", r, 2, 0);
        Checks.stand(r, 0, 6, 0);
        shares("a lies beside it", r, 2, 1);
        Checks.stand(r, 0, 15, 0);
        shares("a lies at a PLACE out of its ARC", r, 2, 1);
        RingPlaces more = Checks.ringOf("land k;land l;thing a k 0 9;thing b k 0 9;thing c l 5 6;place 5;place 6;");
        Checks.stand(more, 1, 6, 0);
        shares("b lies at 6, c goes to 5", more, 2, 1);
        Checks.stand(more, 2, 6, 1);
        shares("b or c lies at 6", more, 2, 1);
        Checks.stand(more, 0, 5, 1);
        shares("a at 5 and c at 6", more, 2, 0);
        RingPlaces fewer = Checks.ringOf("land k;land l;land m;thing a k 0 9;thing b l 0 9;thing c m 0 9;place 5;place 6;");
        shares("two of three LANDS", fewer, 2, 2);
        Checks.stand(fewer, 2, 6, 0);
        shares("c is one of them", fewer, 2, 1);
        Checks.stand(fewer, 1, 5, 0);
        shares("b and c", fewer, 2, 0);
        RingPlaces any = Checks.ringOf("land k;thing a k 0 9;place 5;place 7;place 6;");
        int[] degrees = {5, 7, 6};
        for (int degree : degrees) {
            Checks.stand(any, 0, degree, 0);
            shares("it lies at " + degree, any, 1, 0);
        }
        Checks.stand(any, 0, 8, 0);
        shares("it lies at no PLACE", any, 1, 1);
        Checks.read(any, "land k;thing a k 0 9;");
        shares("no PLACE any more", any, 0, 0);
        RingPlaces dead = Checks.ringOf("land k;thing z k 0 9 dead 1 4;thing a k 0 9;place 5;");
        Checks.stand(dead, 0, 5, 0);
        shares("a DEAD one lies there", dead, 1, 1);
        Checks.stand(dead, 1, 5, 0);
        shares("one that is not DEAD lies there", dead, 1, 0);
    }

    private static void sharesCalls() {
        Document.says("Promise 32", "SHARES: LANDS (what 0), fewest that do not lie there (1).");
        RingPlaces r = Checks.ringOf("land k;land l;thing a k 0 9;thing b l 0 19;place 5;place 15;");
        Checks.stand(r, 0, 5, 0);
        String ahead = Checks.state(r, 2);
        Checks.due("32: fewest, asked first", r.shares(1), 1);
        Checks.due("32: LANDS", r.shares(0), 2);
        Checks.dueText("32: nothing is changed", Checks.state(r, 2), ahead);
        Document.says("Promise 32", "NONE for another what.");
        int[] none = {2, -1, LEAST, GREATEST};
        for (int what : none) {
            Checks.due("32: shares " + what, r.shares(what), -1);
        }
    }

    // ---- DRIFT and MEETS

    /** DAYS, each with where one is then. */
    private static void drifts(String dead, int x, int... days) {
        RingPlaces r = Checks.ringOf("land l;thing z l 0 9 dead " + dead + ";");
        for (int k = 0; k < days.length; k += 2) {
            Checks.due("33: dead " + dead + " told at " + x + ", on " + days[k], Checks.drift(r, 0, x, days[k]), days[k + 1]);
        }
    }

    private static void drift() {
        Document.says(TERMS, "DRIFT of a DEAD THING told at degree x: on DAY d, with s = 4 AMP times the rest of d by PERIOD, by PERIOD, cut:");
        // 160 times d by 100, cut.
        drifts("40 100", 1000, 0, 1000, 1, 1001, 2, 1003, 3, 1004, 5, 1008);
        drifts("40 100", 1000, 99, 998, 100, 1000, 101, 1001, 199, 998, 200, 1000, 999, 998);
        drifts("300 999", 1000, 998, 998, 999, 1000, 1, 1001);
        drifts("0 4", 1000, 0, 1000, 1, 1000, 3, 1000, 999, 1000);
        drifts("1 4", 1000, 0, 1000, 1, 1001, 2, 1000, 3, 999, 4, 1000);
        Document.says(TERMS, "x and s, if s is AMP at most;");
        drifts("40 100", 1000, 24, 1038, 25, 1040);
        drifts("300 4", 1000, 1, 1300);
        drifts("40 100", 3590, 6, 3599, 7, 1, 25, 30);
        Document.says(TERMS, "else x and 2 AMP less s, if s is 3 AMP at most;");
        drifts("40 100", 1000, 26, 1039, 49, 1002, 50, 1000, 51, 999, 74, 962, 75, 960);
        drifts("300 4", 1000, 2, 1000);
        drifts("40 100", 10, 56, 1, 57, 3599, 75, 3570);
        drifts("300 7", 3599, 1, 170, 2, 257, 5, 3342);
        Document.says(TERMS, "else x less 4 AMP and s (round the ring).");
        drifts("40 100", 1000, 76, 961, 77, 963, 98, 996);
        drifts("300 4", 1000, 3, 700);
        drifts("40 100", 10, 76, 3571, 93, 3598, 94, 0, 95, 2);
        drifts("40 100", 0, 99, 3598);
        drifts("300 7", 3599, 6, 3427);
    }

    private static void driftCalls() {
        Document.says("Promise 33", "The degree of a DEAD THING on a DAY (0 to 999), told at x.");
        drifts("40 100", 0, 0, 0, 999, 3598);
        drifts("40 100", 3599, 0, 3599, 999, 3597);
        RingPlaces r = Checks.ringOf("land l;thing a l 0 9;thing z l 0 9 dead 40 100;");
        Checks.stand(r, 1, 77, 0);
        Checks.due("33: where it stands makes no difference", Checks.drift(r, 1, 500, 25), 540);
        Document.says("Promise 33", "NoSuchElementException: no such ones, it is not DEAD.");
        int[][] none = {{0, 5, 5}, {2, 5, 5}, {-1, 5, 5}, {16, 5, 5}, {1, -1, 5}, {1, 3600, 5}, {1, 5, -1}, {1, 5, 1000}, {LEAST, 5, 5},
            {GREATEST, 5, 5}, {1, LEAST, 5}, {1, GREATEST, 5}, {1, 5, LEAST}, {1, 5, GREATEST}};
        for (int[] one : none) {
            Checks.due("33: drift " + one[0] + ", " + one[1] + ", " + one[2], Checks.drift(r, one[0], one[1], one[2]), Checks.THROWS);
        }
    }

    private static final String DRIFTING = "land l;apart 20;thing a l 0 9 ground 3 4;thing b l 0 9 ground 9 9;"
        + "thing z l 0 9 ground 0 3 dead 40 100;thing y l 0 9 ground 0 9 dead 0 4;";

    private static void meets() {
        Document.says(TERMS, "MEETS: the first DAY from a DAY on (999 at most) on which it is less than 'apart' from some THING that stands,"
            + " is not DEAD, has a CELL in common and its VOICE.");
        RingPlaces r = Checks.ringOf(DRIFTING);
        Checks.stand(r, 0, 130, 1);
        // From 100 it comes to 109 on DAY 6, to 111 on DAY 7, and back to 110 on DAY 44.
        Checks.due("34: 20 are not less than 20, 19 are", r.meets(2, 100, 1, 0), 7);
        Checks.due("34: on the DAY itself", r.meets(2, 100, 1, 7), 7);
        Checks.due("34: not ahead of the DAY", r.meets(2, 100, 1, 8), 8);
        Checks.due("34: the last DAY of this round", r.meets(2, 100, 1, 43), 43);
        Checks.due("34: in the next round", r.meets(2, 100, 1, 44), 107);
        Checks.due("34: the last DAY of the last round", r.meets(2, 100, 1, 943), 943);
        Checks.due("34: none until 999", r.meets(2, 100, 1, 944), -1);
        Checks.due("34: on 999", r.meets(2, 130, 1, 999), 999);
        Checks.due("34: on 1000 it would be", r.meets(2, 111, 1, 999), -1);
        Checks.due("34: other VOICES", r.meets(2, 130, 0, 0) + r.meets(2, 130, 2, 0) + r.meets(2, 130, 3, 0), -3);
        r.lift(0);
        Checks.due("34: it does not stand", r.meets(2, 130, 1, 0), -1);
        Checks.stand(r, 1, 130, 1);
        Checks.due("34: no CELL in common", r.meets(2, 130, 1, 0), -1);
        Checks.due("34: y has one", r.meets(3, 130, 1, 0), 0);
        r.lift(1);
        Checks.stand(r, 3, 130, 1);
        Checks.due("34: a DEAD one is not met", r.meets(2, 130, 1, 0), -1);
        Checks.stand(r, 2, 130, 1);
        Checks.due("34: nor does it meet itself", r.meets(2, 130, 1, 0), -1);
        Checks.stand(r, 0, 3590, 1);
        Checks.due("34: 19 over 0", r.meets(3, 9, 1, 0), 0);
        Checks.due("34: 20 over 0", r.meets(3, 10, 1, 0), -1);
        RingPlaces zero = Checks.ringOf("apart 0;" + DRIFTING.replace("apart 20;", ""));
        Checks.stand(zero, 0, 130, 1);
        Checks.due("34: with 'apart' 0 none is met", zero.meets(3, 130, 1, 0), -1);
        RingPlaces one = Checks.ringOf("apart 1;" + DRIFTING.replace("apart 20;", ""));
        Checks.stand(one, 0, 130, 1);
        Checks.due("34: with 'apart' 1 at one degree", one.meets(3, 130, 1, 5), 5);
        Checks.due("34: with 'apart' 1 beside it", one.meets(3, 131, 1, 5), -1);
    }

    private static void meetsCalls() {
        Document.says("Promise 34", "MEETS of a DEAD THING told at x with a VOICE, from a DAY on: the DAY;");
        RingPlaces r = Checks.ringOf(DRIFTING);
        Checks.stand(r, 0, 0, 3);
        Checks.due("34: at 0", r.meets(3, 0, 3, 0), 0);
        Checks.due("34: at 3599", r.meets(3, 3599, 3, 999), 999);
        Document.says("Promise 34", "NONE: none;");
        Checks.due("34: another VOICE", r.meets(3, 0, 0, 0), -1);
        Checks.due("34: another degree", r.meets(3, 1800, 3, 0), -1);
        Checks.due("34: nobody stands", Checks.ringOf(DRIFTING).meets(3, 0, 3, 0), -1);
        StringBuilder text = new StringBuilder(DRIFTING);
        for (int t = 4; t < 16; t++) {
            text.append("thing t").append((char) ('a' + t)).append(" l 0 9 ground 0 0;");
        }
        RingPlaces full = Checks.ringOf(text.toString());
        for (int t = 4; t < 16; t++) {
            full.stand(t, 20 * t, 0);
        }
        Checks.due("34: none of sixteen", full.meets(3, 1800, 0, 0), -1);
        Checks.due("34: the last of sixteen", full.meets(3, 319, 0, 3), 3);
        Document.says("Promise 34", "-2: not as told.");
        int[][] none = {{0, 0, 3, 0}, {4, 0, 3, 0}, {-1, 0, 3, 0}, {16, 0, 3, 0}, {3, -1, 3, 0}, {3, 3600, 3, 0}, {3, 0, -1, 0}, {3, 0, 4, 0},
            {3, 0, 3, -1}, {3, 0, 3, 1000}, {LEAST, 0, 3, 0}, {GREATEST, 0, 3, 0}, {3, LEAST, 3, 0}, {3, GREATEST, 3, 0}, {3, 0, LEAST, 0},
            {3, 0, GREATEST, 0}, {3, 0, 3, LEAST}, {3, 0, 3, GREATEST}};
        for (int[] one : none) {
            Checks.due("34: meets " + one[0] + ", " + one[1] + ", " + one[2] + ", " + one[3],
                r.meets(one[0], one[1], one[2], one[3]), -2);
        }
    }
}
