/** Promises 1 to 8 and 37: the tape, the text, its FAULTS, and what was told. */
public final class TextTest {
    private TextTest() {
    }

    public static void main(String[] args) {
        newObject();
        feedAndEnd();
        linesAndBlanks();
        faultsOfTokens();
        faultsOfNumbers();
        faultsOfNames();
        faultsOfCounts();
        longTexts();
        faultKeepsAll();
        toldOfThings();
        groundsAndPlaces();
        counts();
        Checks.finish();
    }

    private static void newObject() {
        RingPlaces r = new RingPlaces();
        Checks.due("1: NONE", RingPlaces.NONE, -1);
        int[] counts = new int[6];
        for (int k = 0; k < 6; k++) {
            counts[k] = r.count(k);
        }
        Checks.dueAll("1: counts", counts, 0, 0, 0, 0, 20, 0);
        Checks.due("1: fault", r.fault(), 0);
        Checks.due("1: thing", Checks.thing(r, 0, 0), Checks.THROWS);
        Checks.due("1: ring of nothing", r.ring(), 0);
    }

    private static void feedAndEnd() {
        RingPlaces r = new RingPlaces();
        Checks.due("2: feed", r.feed(0x6c616e64, 0x20613b20, 0x20202020, 0x20202020, 0x20202020), 20);
        Checks.due("2: bytes, the highest first", r.ring(), 1);
        Checks.due("2: lands", r.count(0), 1);
        Checks.due("2: a byte above 127 is no TOKEN", r.feed(0xff202020, 0, 0, 0, 0), 20);
        Checks.due("2: its FAULT", r.ring(), -1);
        for (int k = 1; k <= 62; k++) {
            Checks.due("2: feed " + k, r.feed(-1, -1, -1, -1, -1), 20 * k);
        }
        Checks.due("2: full", r.feed(1, 2, 3, 4, 5), RingPlaces.NONE);
        Checks.due("2: none have come", r.count(5), 1240);
        Checks.due("3: end 1221", r.end(1221), true);
        Checks.due("2: one too many", r.feed(1, 2, 3, 4, 5), RingPlaces.NONE);
        Checks.due("3: end 1222", r.end(1222), false);
        Checks.due("3: end 1220", r.end(1220), true);
        Checks.due("2: just room", r.feed(1, 2, 3, 4, 5), 1240);
        Checks.due("3: end below 0", r.end(-1), false);
        Checks.due("3: end least", r.end(Integer.MIN_VALUE), false);
        Checks.due("3: end greatest", r.end(Integer.MAX_VALUE), false);
        Checks.due("3: nothing has changed", r.count(5), 1240);
        Checks.due("3: end at its length", r.end(1240), true);
        Checks.due("3: end 0", r.end(0), true);
        Checks.due("3: empty", r.count(5), 0);
        Checks.due("3: end 1 of none", r.end(1), false);
    }

    private static void linesAndBlanks() {
        RingPlaces r = new RingPlaces();
        Checks.due("4: blanks alone", Checks.read(r, " \n \n"), 0);
        Checks.due("4: two lines", Checks.read(r, "\nland\na ;\n land b;\n"), 2);
        Checks.due("4: tape is empty", r.count(5), 0);
        Checks.due("4: no blank needed at ;", Checks.read(r, "land a;thing t a 0 1;place 7;apart 0;"), 4);
        Checks.due("4: noughts ahead", Checks.read(r, "place 0007;"), 1);
        Checks.due("4: its degree", r.place(0), 7);
        Checks.due("4: NAMES that are nearly alike", Checks.read(r, "land a;land aa;land ab;land ba;land z;land zzzzzz;"), 6);
        Checks.due("4: NAMES that are nearly words", Checks.read(r, "land hand;land lane;land lan;land landa;land p;"), 5);
    }

    private static void faultsOfTokens() {
        Checks.faultAt("^;", 1);
        Checks.faultAt("^.", 1);
        Checks.faultAt("^Land a;", 1);
        Checks.faultAt("land a^\tb;", 1);
        Checks.faultAt("^7;", 1);
        Checks.faultAt("^name;", 1);
        Checks.faultAt("^ground 1 2;", 1);
        Checks.faultAt("land ^abcdefg;", 1);
        Checks.faultAt("land ^a1;", 1);
        Checks.faultAt("land ^1a;", 1);
        Checks.faultAt("land ^12;", 1);
        Checks.faultAt("land ^;", 1);
        Checks.faultAt("land ^there;", 1);
        Checks.faultAt("land ^narrow;", 1);
        Checks.faultAt("land a ^b;", 1);
        Checks.faultAt("land a^", 1);
        Checks.faultAt("land a  ^", 1);
        Checks.faultAt("place ^10000;", 1);
        Checks.faultAt("place ^;", 1);
        Checks.faultAt("place ^x;", 1);
        Checks.faultAt("^place7;", 1);
        Checks.faultAt("place 7 ^8;", 1);
        Checks.faultAt("first ^land;", 1);
        Checks.faultAt("first ^x;", 1);
        Checks.faultAt("first ^1;", 1);
        Checks.faultAt("first ^;", 1);
        Checks.faultAt("land l;thing t ^5;", 1);
        Checks.faultAt("land l;thing t ^land 1 2;", 1);
        Checks.faultAt("land l;thing t l 1^;", 1);
        Checks.faultAt("land l;thing t l 1 2 ^3;", 1);
        Checks.faultAt("land l;thing t l 1 2 ^l;", 1);
        Checks.faultAt("land l;thing t l 1 2 ^apart 3;", 1);
        Checks.faultAt("land l;thing t l 1 2 ^there 3;", 1);
        Checks.faultAt("land l;thing t l 1 2 voice ^;", 1);
        Checks.faultAt("land l;thing t l 1 2 voice ^voice;", 1);
        Checks.faultAt("land l;thing t l 1 2 ground 1^;", 1);
        Checks.faultAt("land l;thing t l 1 2 dead 1^;", 1);
        Checks.faultAt("land l;thing t l 1 2 loud 5^", 1);
        Checks.faultAt("land l;thing t l 1 2;paper ^7;", 1);
        Checks.faultAt("land l;thing t l 1 2;paper ^paper 1 2;", 1);
        Checks.faultAt("land l;thing t l 1 2;paper t 1^;", 1);
        Checks.faultAt("land l;thing t l 1 2;paper t 1 2 ^3;", 1);
        Checks.faultAt("land l;thing t l 1 2;paper t 1 2 there^;", 1);
        Checks.faultAt("land l;thing t l 1 2;paper t 1 2 there 3 ^there 4;", 1);
        Checks.faultAt("land l;thing t l 1 2;paper t 1 2 ^first;", 1);
        Checks.faultAt("land l;thing t l 1 2;narrow t^;", 1);
        Checks.faultAt("land l;thing t l 1 2;narrow t 1 ^2;", 1);
    }

    private static void faultsOfNumbers() {
        String thing = "land l;thing t l 1 2";
        Checks.faultAt("place ^3600;", 2);
        Checks.faultAt("apart ^301;", 2);
        Checks.faultAt("land l;thing t l ^3600 2;", 2);
        Checks.faultAt("land l;thing t l 1 ^3600;", 2);
        Checks.faultAt(thing + " ground ^40 40;", 2);
        Checks.faultAt(thing + " ground 3 ^40;", 2);
        Checks.faultAt(thing + " ground 3 ^2;", 2);
        Checks.faultAt(thing + " voice ^4;", 2);
        Checks.faultAt(thing + " loud ^0;", 2);
        Checks.faultAt(thing + " loud ^1000;", 2);
        Checks.faultAt(thing + " sharp ^0;", 2);
        Checks.faultAt(thing + " sharp ^100;", 2);
        Checks.faultAt(thing + " dead ^301 4;", 2);
        Checks.faultAt(thing + " dead 3 ^3;", 2);
        Checks.faultAt(thing + " dead 3 ^1000;", 2);
        Checks.faultAt(thing + ";paper t ^1000 1;", 2);
        Checks.faultAt(thing + ";paper t 1 ^1000;", 2);
        Checks.faultAt(thing + ";paper t 5 ^4;", 2);
        Checks.faultAt(thing + ";paper t 5 5 there ^1000;", 2);
        Checks.ringOf(thing + " bear 9999 worth 9999 loud 999 sharp 99 dead 300 999 ground 39 39 voice 3;"
            + "paper t 999 999 there 0;narrow t 9999;apart 300;place 3599;");
        Checks.ringOf(thing + " bear 0 worth 0 loud 1 sharp 1 dead 0 4 ground 0 0 voice 0;"
            + "paper t 0 0 there 999;narrow t 0;apart 0;place 0;");
    }

    private static void faultsOfNames() {
        String thing = "land l;thing t l 1 2";
        Checks.faultAt("land a;land ^a;", 3);
        Checks.faultAt(thing + ";land ^t;", 3);
        Checks.faultAt(thing + ";thing ^t l 1 2;", 3);
        Checks.faultAt(thing + ";thing ^l l 1 2;", 3);
        Checks.faultAt("thing t ^l 1 2;", 3);
        Checks.faultAt(thing + ";thing u ^t 1 2;", 3);
        Checks.faultAt("land l;thing t ^t 1 2;", 3);
        Checks.faultAt("paper ^x 1 2;", 3);
        Checks.faultAt(thing + ";paper ^l 1 2;", 3);
        Checks.faultAt(thing + ";narrow ^l 1;", 3);
        Checks.faultAt(thing + ";narrow ^u 1;", 3);
        Checks.faultAt(thing + ";paper t 1 2;paper ^t 1000 2;", 3);
        Checks.faultAt(thing + ";narrow t 1;narrow ^t 1;", 3);
        Checks.faultAt("place 5;place ^5;", 3);
        Checks.faultAt("place 5;place ^005;", 3);
        Checks.faultAt("apart 5;^apart 5;", 3);
        Checks.faultAt("first there;^first;", 3);
        Checks.faultAt(thing + " loud 1 ^loud 2;", 3);
        Checks.faultAt(thing + " sharp 1 ^sharp 2;", 3);
        Checks.faultAt(thing + " bear 1 ^bear 2;", 3);
        Checks.faultAt(thing + " worth 1 ^worth;", 3);
        Checks.faultAt(thing + " dead 1 4 ^dead 1 4;", 3);
        RingPlaces r = Checks.ringOf(thing + " loud 1 voice 1 voice 1 voice 3 ground 1 2 ground 2 4 ground 9 9;"
            + "thing u l 1 2 loud 2;paper u 1 2;paper t 1 2;");
        Checks.due("4: voices told again", Checks.thing(r, 0, 3), 10);
        Checks.due("4: grounds told again", r.ground(0), 0b1000011110L);
    }

    private static String many(String form, int many) {
        StringBuilder text = new StringBuilder();
        for (int k = 0; k < many; k++) {
            text.append(form.replace('#', (char) ('a' + k)).replace("@", String.valueOf(k)));
        }
        return text.toString();
    }

    private static void faultsOfCounts() {
        String lands = many("land l#;", 8);
        String things = "land l;" + many("thing t# l 1 2;", 16);
        String places = many("place @;", 6);
        Checks.faultAt(lands + "^land x;", 4);
        Checks.faultAt(lands + "^land la;", 4);
        Checks.faultAt(lands + "^land", 4);
        Checks.faultAt(things + " ^thing x l 1 2;", 4);
        Checks.faultAt(things + "^thing ta l 1 2;", 4);
        Checks.faultAt(places + "^place 9;", 4);
        Checks.faultAt(places + "^place 5;", 4);
        RingPlaces r = Checks.ringOf(lands + many("thing t# la 1 2;", 16) + places);
        Checks.due("4: eight lands", r.count(0), 8);
        Checks.due("4: sixteen things", r.count(1), 16);
        Checks.due("4: six places", r.count(2), 6);
    }

    private static void longTexts() {
        RingPlaces r = new RingPlaces();
        Checks.due("4: 1200 bytes", Checks.read(r, "land a;" + Checks.blanks(1193)), 1);
        Checks.due("4: the last of 1200", Checks.read(r, Checks.blanks(1193) + "land b;"), 1);
        Checks.fault("land a;" + Checks.blanks(1194), 1, 1200);
        Checks.fault(Checks.blanks(1240), 1, 1200);
        Checks.fault(Checks.blanks(1194) + "land a;", 1, 1200);
        Checks.fault(Checks.blanks(1200) + "?", 1, 1200);
        Checks.fault(Checks.blanks(1199) + "?   ", 1, 1199);
        Checks.fault("land a;land a;" + Checks.blanks(1200), 3, 12);
        Checks.fault(Checks.blanks(1196) + "place 7;", 1, 1200);
        Checks.fault(Checks.blanks(1196) + "placed 7;", 1, 1196);
        Checks.fault(Checks.blanks(1193) + "place 10000;", 1, 1199);
        Checks.fault(Checks.blanks(1193) + "place 3600;", 2, 1199);
        Checks.fault(Checks.blanks(1193) + "place 3599;", 1, 1200);
        Checks.fault("land abc;" + Checks.blanks(1185) + "land abc;", 3, 1199);
        Checks.fault("land abc;" + Checks.blanks(1185) + "land abd;", 1, 1200);
        Checks.fault(many("land l#;", 8) + Checks.blanks(1199 - 64) + "land x;", 4, 1199);
        Checks.fault(Checks.blanks(1199) + "land there;", 1, 1200);
        Checks.fault("land" + Checks.blanks(1196), 1, 1200);
    }

    private static void faultKeepsAll() {
        RingPlaces r = Checks.ringOf("land l;thing t l 1 2;apart 7;place 4;");
        r.stand(0, 5, 3);
        Checks.due("4: a FAULT", Checks.read(r, "land q;land q;"), -13);
        Checks.due("5: its kind", r.fault(), 3);
        Checks.due("4: things stay", r.count(1), 1);
        Checks.due("4: apart stays", r.count(4), 7);
        Checks.due("4: the STANDING stays", r.stands(0, 0), 5);
        Checks.due("4: a new RING", Checks.read(r, "land l;thing t l 1 2;"), 2);
        Checks.due("5: none now", r.fault(), 0);
        Checks.due("4: no STANDING", r.stands(0, 0), RingPlaces.NONE);
        Checks.due("4: apart untold", r.count(4), 20);
        Checks.due("4: no PLACE", r.place(0), RingPlaces.NONE);
        Checks.due("4: nothing on the tape is an empty RING", r.ring(), 0);
        Checks.due("4: no THING", r.count(1), 0);
    }

    private static int[] facts(RingPlaces r, int t) {
        int[] all = new int[14];
        for (int what = 0; what < 14; what++) {
            all[what] = Checks.thing(r, t, what);
        }
        return all;
    }

    private static void toldOfThings() {
        RingPlaces r = Checks.ringOf("land k;land l;thing s k 3500 20;"
            + "thing t l 1 2 dead 30 40 worth 8 bear 7 sharp 6 loud 5 voice 2 voice 0;"
            + "paper t 50 60 there 70;narrow t 80;paper s 3 4;");
        Checks.dueAll("6: untold", facts(r, 0), 0, 3500, 20, 0, 100, 5, 50, 1, -1, -1, 3, 4, -1, -1);
        Checks.dueAll("6: told", facts(r, 1), 1, 1, 2, 5, 5, 6, 7, 8, 30, 40, 50, 60, 70, 80);
        Checks.due("6: what 14", Checks.thing(r, 0, 14), Checks.THROWS);
        Checks.due("6: what -1", Checks.thing(r, 0, -1), Checks.THROWS);
        Checks.due("6: thing 2", Checks.thing(r, 2, 0), Checks.THROWS);
        Checks.due("6: thing -1", Checks.thing(r, -1, 0), Checks.THROWS);
        Checks.due("6: greatest", Checks.thing(r, Integer.MAX_VALUE, Integer.MAX_VALUE), Checks.THROWS);
        Checks.due("6: least", Checks.thing(r, Integer.MIN_VALUE, Integer.MIN_VALUE), Checks.THROWS);
        Checks.due("6: THINGS told anew are as untold", Checks.read(r, "land l;thing a l 9 9;thing b l 8 7;"), 3);
        Checks.dueAll("6: anew", facts(r, 1), 0, 8, 7, 0, 100, 5, 50, 1, -1, -1, -1, -1, -1, -1);
        Checks.due("7: anew", r.ground(1), 0);
    }

    private static void groundsAndPlaces() {
        RingPlaces r = Checks.ringOf("land l;thing a l 0 0 ground 0 0 ground 39 39;thing b l 0 0 ground 0 39;"
            + "thing c l 0 0;place 9;place 3599;place 0;");
        Checks.due("7: both ends", r.ground(0), 1L << 39 | 1);
        Checks.due("7: all", r.ground(1), (1L << 40) - 1);
        Checks.due("7: none", r.ground(2), 0);
        Checks.due("7: no such", r.ground(3) + r.ground(-1) + r.ground(Integer.MAX_VALUE), 0);
        Checks.dueAll("8: as told", new int[] {r.place(0), r.place(1), r.place(2)}, 9, 3599, 0);
        Checks.dueAll("8: no such", new int[] {r.place(3), r.place(-1), r.place(6), r.place(Integer.MIN_VALUE)},
            -1, -1, -1, -1);
    }

    private static void counts() {
        RingPlaces r = Checks.ringOf("land l;land m;thing a l 0 0;thing b l 0 0;thing c l 0 0 dead 0 4;place 9;apart 3;");
        r.stand(0, 0, 0);
        r.stand(2, 0, 0);
        r.feed(0, 0, 0, 0, 0);
        int[] counts = new int[9];
        for (int k = 0; k < 9; k++) {
            counts[k] = r.count(k - 1);
        }
        Checks.dueAll("37: count", counts, -1, 2, 3, 1, 2, 3, 20, -1, -1);
        Checks.due("37: greatest", r.count(Integer.MAX_VALUE), -1);
    }
}
