/** A test for each sentence of Terms (1), and of promises 1 to 8 and 37: the tape, the text, its FAULTS, what was told. */
final class TextSentences {
    private static final String TERMS = "Terms";
    private static final String THING = "land l;thing t l 1 2";
    private static final String[] GRAMMAR = {"land", "thing", "ground", "voice", "loud", "sharp", "bear", "worth", "dead",
        "apart", "place", "first", "paper", "there", "narrow"};

    private TextSentences() {
    }

    static void all() {
        calls();
        tokens();
        lines();
        partsOfThings();
        otherLines();
        names();
        faultOrder();
        faultsByKind();
        tape();
        ringAndFault();
        tolds();
        counts();
    }

    private static String many(String form, int many) {
        StringBuilder text = new StringBuilder();
        for (int k = 0; k < many; k++) {
            text.append(form.replace('#', (char) ('a' + k)).replace("@", String.valueOf(k)));
        }
        return text.toString();
    }

    // ---- What it is

    private static void calls() {
        Document.says("What it is", "An object is used for at most 512 calls after it has been made;");
        RingPlaces r = new RingPlaces();
        for (int call = 1; call <= 509; call += 3) {
            r.feed(0x706c6163, 0x6520373b, 0x6c616e64, 0x20613b20, 0x20202020);
            r.end(call <= 506 ? 20 : 8);
            r.ring();
        }
        // 510 calls were made.
        Checks.due("4: by the last RING, the 511th call", r.place(0), 7);
        Checks.due("37: the 512th call", r.count(0), 0);
    }

    // ---- TOKENS

    private static void tokens() {
        length();
        blanks();
        words();
        numbers();
        goingOn();
    }

    private static void length() {
        Document.says(TERMS, "A RING is a text of at most 1200 bytes.");
        Checks.lines("land a;" + Checks.blanks(1192), 1);
        Checks.lines("land a;" + Checks.blanks(1193), 1);
        Checks.fault("land a;" + Checks.blanks(1194), 1, 1200);
        Checks.lines(Checks.blanks(1193) + "land a;", 1);
        Checks.fault(Checks.blanks(1194) + "land a;", 1, 1200);
        Checks.lines(Checks.blanks(1200), 0);
        Checks.fault(Checks.blanks(1201), 1, 1200);
        Checks.fault(Checks.blanks(1240), 1, 1200);
        Checks.lines("apart 1;place 2;" + Checks.blanks(1176) + "place 3;", 3);
    }

    private static void blanks() {
        Document.says(TERMS, "TOKENS, with blanks (32, 10) between them or not:");
        for (int sign = 0; sign < 256; sign++) {
            String text = "land a" + (char) sign + ";";
            if (sign == 32 || sign == 10 || sign >= 'a' && sign <= 'z') {
                Checks.lines(text, 1);
            } else if (sign == ';') {
                Checks.fault(text, 1, 7);
            } else {
                // A digit goes on with the NAME, so that this begins ahead of it.
                Checks.fault(text, 1, sign >= '0' && sign <= '9' ? 5 : 6);
            }
        }
        Checks.lines("land a;land b;thing t a 1 2;", 3);
        Checks.lines(" \n land \n a \n ; \n land b ;\nthing  t\n\na 1 2;", 3);
        Checks.lines("land a;place 1;place 2;", 3);
    }

    private static void words() {
        Document.says(TERMS, "WORDS: small letters, 1 to 6;");
        Checks.lines("land a;", 1);
        Checks.lines("land z;", 1);
        Checks.lines("land abcdef;", 1);
        Checks.lines("land zzzzzz;", 1);
        Checks.faultAt("land ^abcdefg;", 1);
        Checks.faultAt("land ^zzzzzzzzzzzzzzzzzzzzzzzzzzzzzzz;", 1);
        Checks.faultAt("land ^A;", 1);
        Checks.faultAt("land ^Z;", 1);
        Checks.faultAt("land a^B;", 1);
        Checks.faultAt("land ^`;", 1);
        Checks.faultAt("land ^{;", 1);
        Checks.faultAt("^Land a;", 1);
    }

    private static void numbers() {
        Document.says(TERMS, "NUMBERS: 1 to 4 digits; ; .");
        Checks.lines("place 7;", 1);
        Checks.lines("place 0007;", 1);
        Checks.faultAt("place ^00007;", 1);
        Checks.faultAt("place ^10000;", 1);
        Checks.faultAt("place ^99999999999999999999;", 1);
        Checks.faultAt("place ^4294967296;", 1);
        Checks.lines("place 0;place 9;", 2);
        Checks.faultAt("place ^/;", 1);
        Checks.faultAt("place ^:;", 1);
        Checks.faultAt("place ^-1;", 1);
        Checks.faultAt("place 1^.5;", 1);
        Checks.faultAt("place 1^.", 1);
        Checks.faultAt("place 1^:", 1);
        manyTokens();
    }

    /** Each byte a TOKEN of its own, or none. */
    private static void manyTokens() {
        Checks.fault(";".repeat(1200), 1, 0);
        Checks.fault("?".repeat(1240), 1, 0);
        Checks.fault(";".repeat(1240), 1, 0);
        Checks.lines(THING + " voice 1".repeat(147) + "   ;", 2);
        Checks.fault(THING + " voice 1".repeat(147) + "    ;", 1, 1200);
    }

    private static void goingOn() {
        Document.says(TERMS, "(A WORD, NUMBER goes on as long as small letters and digits do; what is not as told is no TOKEN.)");
        Checks.faultAt("^place7;", 1);
        Checks.faultAt("place ^7a;", 1);
        Checks.faultAt("place ^7land a;", 1);
        Checks.faultAt("land ^a1;", 1);
        Checks.faultAt("land ^1a;", 1);
        Checks.faultAt("land ^abcdef1;", 1);
        Checks.faultAt("place ^1234a;", 1);
        Checks.faultAt("^landa;", 1);
        Checks.faultAt(THING + " ^loud5;", 1);
        Checks.faultAt("land l;thing t ^l1 2;", 1);
        stale();
    }

    /** What lay on the tape behind its end is not gone on with. */
    private static void stale() {
        RingPlaces r = new RingPlaces();
        r.feed(0x706c6163, 0x65203132, 0x33343536, 0x37383930, 0x3b3b3b3b);
        r.end(8);
        Checks.due("4: cut to \"place 12\"", r.ring(), -9);
        r.feed(0x706c6163, 0x65203132, 0x33343536, 0x37383930, 0x3b3b3b3b);
        r.end(4);
        Checks.due("4: cut to \"plac\"", r.ring(), -1);
        r.feed(0x706c6163, 0x65206578, 0x20202020, 0x20202020, 0x20202020);
        r.end(5);
        Checks.due("4: cut to \"place\"", r.ring(), -6);
    }

    // ---- LINES

    private static void lines() {
        Document.says(TERMS, "TEXT: { LINE ; }.");
        Checks.lines("", 0);
        Checks.lines(" ", 0);
        Checks.lines("land a;", 1);
        Checks.lines("land a;land b;", 2);
        Checks.faultAt("land a^", 1);
        Checks.faultAt("land a;land b^", 1);
        Checks.faultAt("^;", 1);
        Checks.faultAt("land a;^;", 1);
        Checks.faultAt("land a ^land b;", 1);
        // As many LINES as can be: 8 LANDS, 16 THINGS, 6 PLACES, a paper and a 'narrow' each, apart, first.
        Checks.lines(many("land l#;", 8) + many("thing t# la 1 2;", 16) + many("place @;", 6) + many("paper t# 1 2;", 16)
            + many("narrow t# 1;", 16) + "apart 1;first there;", 64);
        Document.says(TERMS, "LINE: 'land' NAME");
        Checks.lines("land a;", 1);
        Checks.faultAt("land^", 1);
        Checks.faultAt("land^;", 1);
        Checks.faultAt("land a ^b;", 1);
        Document.says(TERMS, "| 'thing' NAME LAND FROM TO { 'ground' A B | 'voice' V | 'loud' N | 'sharp' N | 'bear' N"
            + " | 'worth' N | 'dead' AMP PERIOD }");
        Checks.lines(THING + ";", 2);
        Checks.lines(THING + " ground 1 2 voice 1 loud 1 sharp 1 bear 1 worth 1 dead 1 4;", 2);
        Checks.lines(THING + " dead 1 4 worth 1 bear 1 sharp 1 loud 1 voice 1 ground 1 2;", 2);
        Checks.faultAt("land l;thing t l 1^;", 1);
        Checks.faultAt("land l;thing t l^;", 1);
        Checks.faultAt("land l;thing t^;", 1);
        Checks.faultAt("land l;thing^;", 1);
        Checks.faultAt(THING + " ^3;", 1);
        Checks.faultAt(THING + " ground 1^;", 1);
        Checks.faultAt(THING + " ground 1 2 ^3;", 1);
        Checks.faultAt(THING + " dead 1^;", 1);
        Checks.faultAt(THING + " voice^;", 1);
        Checks.faultAt(THING + " voice 1 ^2;", 1);
        Checks.faultAt(THING + " ^there 1;", 1);
        Checks.faultAt(THING + " ^narrow 1;", 1);
    }

    /** A NUMBER from least to greatest: both ends are as told, what lies beyond them is not. */
    private static void range(String ahead, String behind, int least, int greatest) {
        Checks.due("4: " + ahead + least, Checks.read(Checks.fresh(), ahead + least + behind) > 0, true);
        Checks.due("4: " + ahead + greatest, Checks.read(Checks.fresh(), ahead + greatest + behind) > 0, true);
        if (least > 0) {
            Checks.faultAt(ahead + "^" + (least - 1) + behind, 2);
        }
        // Five digits are no TOKEN at all.
        Checks.faultAt(ahead + "^" + (greatest + 1) + behind, greatest < 9999 ? 2 : 1);
        if (greatest < 9999) {
            Checks.faultAt(ahead + "^9999" + behind, 2);
        }
    }

    private static void fact(String word, int what, int least, int greatest, int without) {
        range(THING + " " + word + " ", ";", least, greatest);
        Checks.due("6: least " + word, Checks.thing(Checks.ringOf(THING + " " + word + " " + least + ";"), 0, what), least);
        Checks.due("6: greatest " + word, Checks.thing(Checks.ringOf(THING + " " + word + " " + greatest + ";"), 0, what), greatest);
        Checks.due("6: without " + word, Checks.thing(Checks.ringOf(THING + ";"), 0, what), without);
    }

    private static void partsOfThings() {
        Document.says(TERMS, "(FROM, TO 0 to 3599, tenths of a degree:");
        range("land l;thing t l ", " 5;", 0, 3599);
        range("land l;thing t l 5 ", ";", 0, 3599);
        Checks.due("6: FROM", Checks.thing(Checks.ringOf("land l;thing t l 3599 0;"), 0, 1), 3599);
        Checks.due("6: TO", Checks.thing(Checks.ringOf("land l;thing t l 0 3599;"), 0, 2), 3599);
        Document.says(TERMS, "its ARC goes from the one up to the other, round over 0, if TO is less;");
        arc("100 500", 99, 1, 100, 0, 500, 0, 501, 1);
        arc("3500 50", 3499, 1, 3500, 0, 3599, 0, 0, 0, 50, 0, 51, 1, 1800, 1);
        arc("7 7", 6, 1, 7, 0, 8, 1);
        arc("8 7", 6, 0, 7, 0, 8, 0, 9, 0, 1807, 0);
        arc("8 6", 6, 0, 7, 1, 8, 0);
        arc("0 0", 3599, 1, 0, 0, 1, 1);
        arc("3599 3599", 3598, 1, 3599, 0, 0, 1);
        arc("3599 0", 3598, 1, 3599, 0, 0, 0, 1, 1);
        arc("0 3599", 0, 0, 1800, 0, 3599, 0);
        arc("1 3599", 0, 1, 1, 0, 3599, 0);
        arc("0 3598", 3599, 1, 3598, 0, 0, 0);
        Document.says(TERMS, "CELLS A to B of the ground, 0 to 39, B no less than A;");
        range(THING + " ground ", " 39;", 0, 39);
        range(THING + " ground 0 ", ";", 0, 39);
        range(THING + " ground 17 ", ";", 17, 39);
        ground("0 0", 1L);
        ground("39 39", 1L << 39);
        ground("0 39", (1L << 40) - 1);
        ground("31 32", 3L << 31);
        ground("5 7", 0xe0L);
        Document.says(TERMS, "V 0 to 3;");
        range(THING + " voice ", ";", 0, 3);
        Checks.due("6: VOICE 0", Checks.thing(Checks.ringOf(THING + " voice 0;"), 0, 3), 1);
        Checks.due("6: VOICE 3", Checks.thing(Checks.ringOf(THING + " voice 3;"), 0, 3), 8);
        Document.says(TERMS, "loud 1 to 999, 100 without;");
        fact("loud", 4, 1, 999, 100);
        Document.says(TERMS, "sharp 1 to 99, 5;");
        fact("sharp", 5, 1, 99, 5);
        Document.says(TERMS, "bear 0 to 9999, 50;");
        fact("bear", 6, 0, 9999, 50);
        Document.says(TERMS, "worth 0 to 9999, 1;");
        fact("worth", 7, 0, 9999, 1);
        Document.says(TERMS, "AMP 0 to 300, PERIOD 4 to 999: it is DEAD)");
        range(THING + " dead ", " 4;", 0, 300);
        range(THING + " dead 0 ", ";", 4, 999);
        RingPlaces r = Checks.ringOf(THING + " dead 0 4;thing u l 1 2;");
        Checks.stand(r, 0, 1, 0, 1, 1, 0);
        Checks.due("14: DEAD, with AMP 0", r.wrong(0), -1);
        Checks.due("14: not DEAD", r.wrong(1), 2);
    }

    /** Degrees, each with what WRONG tells of a THING there whose ARC is this. */
    private static void arc(String arc, int... degrees) {
        RingPlaces r = Checks.ringOf("land l;thing t l " + arc + " voice 0;");
        for (int k = 0; k < degrees.length; k += 2) {
            r.stand(0, degrees[k], 0);
            Checks.due("14: ARC " + arc + " at " + degrees[k], r.wrong(0), degrees[k + 1]);
        }
    }

    private static void ground(String cells, long bits) {
        Checks.due("7: ground " + cells, Checks.ringOf(THING + " ground " + cells + ";").ground(0), bits);
    }

    private static void otherLines() {
        Document.says(TERMS, "| 'apart' N (0 to 300; 20 without)");
        range("apart ", ";", 0, 300);
        Checks.due("37: without", Checks.ringOf("land a;").count(4), 20);
        Checks.due("37: least", Checks.ringOf("apart 0;").count(4), 0);
        Checks.due("37: greatest", Checks.ringOf("apart 300;").count(4), 300);
        Document.says(TERMS, "| 'place' X (0 to 3599)");
        range("place ", ";", 0, 3599);
        Checks.due("8: least", Checks.ringOf("place 0;").place(0), 0);
        Checks.due("8: greatest", Checks.ringOf("place 3599;").place(0), 3599);
        Document.says(TERMS, "| 'first' ( 'paper' | 'there' ) ('paper' without)");
        String two = "land l;thing a l 0 9 ground 0 0;thing b l 0 9 ground 0 0;paper a 5 50 there 20;paper b 3 50 there 30;";
        Checks.due("30: b's paper is ahead, without", Checks.ringOf(two).right(0, 1, 40), -1);
        Checks.due("30: b's paper is ahead", Checks.ringOf(two + "first paper;").right(0, 1, 40), -1);
        Checks.due("30: a was there ahead", Checks.ringOf(two + "first there;").right(0, 1, 40), 1);
        Checks.faultAt("first^;", 1);
        Checks.faultAt("first ^narrow;", 1);
        Checks.faultAt("first ^papers;", 1);
        Checks.faultAt("first paper ^there;", 1);
        RingPlaces again = Checks.ringOf(two + "first there;");
        Checks.read(again, two);
        Checks.due("30: 'paper' again, without", again.right(0, 1, 40), -1);
        Document.says(TERMS, "| 'paper' THING DAY BY [ 'there' DAY ] (DAYS 0 to 999; BY no less than DAY)");
        range(THING + ";paper t ", " 999;", 0, 999);
        range(THING + ";paper t 0 ", ";", 0, 999);
        range(THING + ";paper t 17 ", ";", 17, 999);
        range(THING + ";paper t 17 20 there ", ";", 0, 999);
        Checks.lines(THING + ";paper t 17 20;", 3);
        Checks.faultAt(THING + ";paper t 17 20 there^;", 1);
        Checks.faultAt(THING + ";paper t 17^;", 1);
        Checks.faultAt(THING + ";paper t 17 20 ^21;", 1);
        Document.says(TERMS, "| 'narrow' THING COST (0 to 9999; what it costs to make it twice as sharp).");
        range(THING + ";narrow t ", ";", 0, 9999);
        Checks.due("6: least COST", Checks.thing(Checks.ringOf(THING + ";narrow t 0;"), 0, 13), 0);
        Checks.due("6: greatest COST", Checks.thing(Checks.ringOf(THING + ";narrow t 9999;"), 0, 13), 9999);
        Checks.faultAt(THING + ";narrow t^;", 1);
    }

    // ---- NAMES

    private static void names() {
        Document.says(TERMS, "NAME: a WORD, none of those told here;");
        for (String word : GRAMMAR) {
            Checks.faultAt("land ^" + word + ";", 1);
            Checks.faultAt("land l;thing ^" + word + " l 1 2;", 1);
            Checks.lines("land " + word.substring(1) + ";land " + word.charAt(0) + ";", 2);
            for (int k = 0; k < word.length(); k++) {
                Checks.lines("land " + word.substring(0, k) + "q" + word.substring(k + 1) + ";", 1);
            }
        }
        Checks.lines("land lands;land things;land worths;", 3);
        Checks.faultAt("land ^7;", 1);
        Document.says(TERMS, "told once.");
        Checks.faultAt("land a;land ^a;", 3);
        Checks.faultAt(THING + ";thing ^t l 1 2;", 3);
        Checks.faultAt(THING + ";land ^t;", 3);
        Checks.faultAt("land l;thing ^l l 1 2;", 3);
        Checks.faultAt("land abcdef;land abcdeg;land bbcdef;land ^abcdef;", 3);
        Checks.lines("land a;land b;land aa;land ab;land ba;land az;land za;land bz;", 8);
        Checks.lines("land zzzzzz;land zzzzz;land zzzz;land zzz;land zz;land z;land azzzzz;land zzzzza;", 8);
        Checks.lines("land l;thing a l 1 2;thing aa l 1 2;thing aaa l 1 2;thing baa l 1 2;thing aab l 1 2;", 6);
        RingPlaces r = Checks.ringOf("land a;");
        Checks.due("4: a NAME of another RING is not told yet", Checks.read(r, "land a;"), 1);
        Document.says(TERMS, "LAND, THING: told ahead.");
        Checks.lines("land l;thing t l 1 2;paper t 1 2;narrow t 1;", 4);
        Checks.faultAt("thing t ^l 1 2;land l;", 3);
        Checks.faultAt("land l;paper ^t 1 2;thing t l 1 2;", 3);
        Checks.faultAt("land l;narrow ^t 1;thing t l 1 2;", 3);
        RingPlaces s = Checks.ringOf(THING + ";");
        Checks.due("4: a LAND of another RING is not told", Checks.read(s, "thing t l 1 2;"), -9);
        Checks.due("4: a THING of another RING is not told", Checks.read(s, "paper t 1 2;"), -7);
        Document.says(TERMS, "8 LANDS, 16 THINGS, 6 PLACES (unlike) at most,");
        Checks.lines(many("land l#;", 8), 8);
        Checks.fault(many("land l#;", 9), 4, 64);
        Checks.lines("land l;" + many("thing t# l 1 2;", 16), 17);
        Checks.fault("land l;" + many("thing t# l 1 2;", 17), 4, 7 + 16 * 15);
        Checks.lines(many("place @;", 6), 6);
        Checks.fault(many("place @;", 7), 4, 48);
        Checks.faultAt("place 1;place 2;place ^1;", 3);
        Document.says(TERMS, "each sort numbered from 0 as told.");
        numberedAsTold();
        toldAgain();
    }

    private static void numberedAsTold() {
        RingPlaces r = Checks.ringOf("place 30;land z;thing y z 1 2;land b;place 10;thing a b 3 4;thing c z 5 6;place 20;narrow a 7;");
        Checks.dueAll("8: PLACES", new int[] {r.place(0), r.place(1), r.place(2)}, 30, 10, 20);
        Checks.dueAll("6: LANDS", new int[] {r.thing(0, 0), r.thing(1, 0), r.thing(2, 0)}, 0, 1, 0);
        Checks.dueAll("6: THINGS", new int[] {r.thing(0, 1), r.thing(1, 1), r.thing(2, 1)}, 1, 3, 5);
        Checks.dueAll("6: the second is meant", new int[] {r.thing(0, 13), r.thing(1, 13), r.thing(2, 13)}, -1, 7, -1);
        RingPlaces full = Checks.ringOf(many("land l#;", 8) + "thing t lh 1 2;");
        Checks.due("6: the last LAND", full.thing(0, 0), 7);
    }

    private static void toldAgain() {
        Document.says(TERMS, "'ground' and 'voice' may be told again (other ones, too),");
        RingPlaces r = Checks.ringOf(THING + " voice 1 ground 3 4 voice 1 ground 3 4 voice 3 ground 4 6 ground 39 39;");
        Checks.due("6: VOICES", r.thing(0, 3), 10);
        Checks.due("7: CELLS", r.ground(0), 1L << 39 | 0x78);
        Document.says(TERMS, "all other words of a thing once.");
        String[] once = {"loud 5", "sharp 5", "bear 5", "worth 5", "dead 5 5"};
        for (String word : once) {
            Checks.faultAt(THING + " " + word + " ^" + word + ";", 3);
            Checks.faultAt(THING + " " + word + " voice 1 ground 1 1 ^" + word + ";", 3);
            Checks.lines(THING + " " + word + ";thing u l 1 2 " + word + ";", 3);
            for (String other : once) {
                if (!other.equals(word)) {
                    Checks.lines(THING + " " + word + " " + other + ";", 2);
                }
            }
        }
        Document.says(TERMS, "apart, first once;");
        Checks.faultAt("apart 5;^apart 5;", 3);
        Checks.faultAt("first paper;^first paper;", 3);
        Checks.faultAt("apart 20;land a;^apart 20;", 3);
        Checks.lines("apart 5;first there;", 2);
        RingPlaces s = Checks.ringOf("apart 5;first there;");
        Checks.due("4: once in each RING", Checks.read(s, "first paper;apart 6;"), 2);
        Document.says(TERMS, "of a THING one paper, one 'narrow'.");
        Checks.faultAt(THING + ";paper t 1 2;paper ^t 1 2;", 3);
        Checks.faultAt(THING + ";narrow t 1;narrow ^t 1;", 3);
        Checks.faultAt(THING + ";paper t 0 0;paper ^t 0 0;", 3);
        Checks.faultAt(THING + ";narrow t 0;narrow ^t 0;", 3);
        Checks.lines(THING + ";paper t 1 2;narrow t 1;thing u l 1 2;paper u 1 2;narrow u 1;", 7);
        RingPlaces u = Checks.ringOf(THING + ";paper t 1 2;narrow t 1;");
        Checks.due("4: once in each RING, too", Checks.read(u, THING + ";paper t 1 2;narrow t 1;"), 4);
    }

    // ---- FAULTS

    private static void faultOrder() {
        Document.says(TERMS, "FAULTS, the first along the text,");
        Checks.faultAt("land a;land ^a;place 3600;?", 3);
        Checks.faultAt("place ^3600;land a;land a;?", 2);
        Checks.faultAt("^?;place 3600;", 1);
        Checks.faultAt(many("place @;", 6) + "^place 3600;", 4);
        Checks.faultAt(many("place @;", 6) + "^place 5;", 4);
        Checks.faultAt(many("land l#;", 8) + "^land la;", 4);
        Checks.faultAt("land l;" + many("thing t# l 1 2;", 16) + "^thing ta x 3600 2;", 4);
        Checks.faultAt("land l;thing t ^x 3600 3600;", 3);
        Checks.faultAt("land l;thing t l ^3600 x;", 2);
        Checks.faultAt(THING + ";paper t 5 ^4 there 1000;", 2);
        Document.says(TERMS, "of one TOKEN the least:");
        Checks.faultAt("apart 5 ^apart 6;", 1);
        Checks.faultAt("apart 5;" + THING + " ^apart 6;", 1);
        Checks.faultAt("first ^first;", 1);
        Checks.faultAt(THING + " loud ^loud;", 1);
        Checks.faultAt(THING + " loud 5 sharp ^loud 6;", 1);
        Checks.faultAt("place 1 ^9999;", 1);
        Checks.faultAt("land ^9999;", 1);
        Checks.faultAt("place ^nobody;", 1);
        Checks.faultAt(many("place @;", 5) + "place 5 ^place 6;", 1);
        Checks.faultAt(many("land l#;", 7) + "land x ^land y;", 1);
        Checks.faultAt(THING + ";paper t 1 ^t;", 1);
    }

    /** What may stand somewhere in a LINE, and which FAULT each other TOKEN is there; 0: it can come. */
    private static int faultOf(char slot, String token) {
        boolean number = token.matches("[0-9]{1,4}");
        boolean name = token.matches("[lxt]");
        switch (slot) {
            case 'N':
                return name ? token.equals("x") ? 0 : 3 : 1;
            case 'L':
                return name ? token.equals("l") ? 0 : 3 : 1;
            case 'T':
                return name ? token.equals("t") ? 0 : 3 : 1;
            case '#':
                return number ? token.equals("1") ? 0 : 2 : 1;
            case 'B':
                return token.matches("land|thing|apart|place|first|paper|narrow") ? 0 : 1;
            case 'P':
                return token.matches("ground|voice|loud|sharp|bear|worth|dead|;") ? 0 : 1;
            case 'F':
                return token.matches("paper|there") ? 0 : 1;
            case 'H':
                return token.matches("there|;") ? 0 : 1;
            default:
                return token.equals(";") ? 0 : 1;
        }
    }

    /** Each TOKEN at this place behind a text: it can come, and the end is the FAULT then, or it is the FAULT. */
    private static void tryTokens(String ahead, char slot) {
        String all = String.join(" ", GRAMMAR) + " x l t abcdefg a1 1 9999 10000 ; . ? A";
        for (String token : all.split(" ")) {
            String text = THING + ";" + ahead + token;
            int kind = faultOf(slot, token);
            if (kind == 0 && token.equals(";")) {
                Checks.due("4: it can come: " + text, Checks.read(Checks.fresh(), text) > 0, true);
            } else if (kind == 0) {
                Checks.fault(text, 1, text.length());
            } else {
                Checks.fault(text, kind, text.length() - token.length());
            }
        }
    }

    private static void faultsByKind() {
        Document.says(TERMS, "1 no TOKEN, or one that can't come (at it;");
        tryTokens("", 'B');
        tryTokens("land ", 'N');
        tryTokens("land q ", ';');
        tryTokens("thing ", 'N');
        tryTokens("thing q ", 'L');
        tryTokens("thing q l ", '#');
        tryTokens("thing q l 1 ", '#');
        tryTokens("thing q l 1 1 ", 'P');
        tryTokens("thing q l 1 1 ground ", '#');
        tryTokens("thing q l 1 1 ground 1 ", '#');
        tryTokens("thing q l 1 1 ground 1 1 ", 'P');
        tryTokens("thing q l 1 1 voice ", '#');
        tryTokens("thing q l 1 1 voice 1 ", 'P');
        tryTokens("thing q l 1 1 loud ", '#');
        tryTokens("thing q l 1 1 sharp ", '#');
        tryTokens("thing q l 1 1 dead ", '#');
        tryTokens("apart ", '#');
        tryTokens("apart 1 ", ';');
        tryTokens("place ", '#');
        tryTokens("place 1 ", ';');
        tryTokens("first ", 'F');
        tryTokens("first there ", ';');
        tryTokens("first paper ", ';');
        tryTokens("paper ", 'T');
        tryTokens("paper t ", '#');
        tryTokens("paper t 1 ", '#');
        tryTokens("paper t 1 1 ", 'H');
        tryTokens("paper t 1 1 there ", '#');
        tryTokens("paper t 1 1 there 1 ", ';');
        tryTokens("narrow ", 'T');
        tryTokens("narrow t 1 ", ';');
        Document.says(TERMS, "the end: how many bytes there are;");
        Checks.fault("land", 1, 4);
        Checks.fault("land \n ", 1, 7);
        Checks.fault("land a", 1, 6);
        Checks.fault("  land a  ", 1, 10);
        Checks.fault(THING, 1, THING.length());
        Checks.fault("land" + Checks.blanks(1196), 1, 1200);
        Checks.fault(Checks.blanks(1195) + "place", 1, 1200);
        Checks.fault("land" + Checks.blanks(1195), 1, 1199);
        longTexts();
        Document.says(TERMS, "2 a NUMBER that is not as told (at it);");
        Checks.faultAt("place  ^3600;", 2);
        Checks.faultAt(THING + " ground 3 ^2;", 2);
        Checks.faultAt(THING + " bear 1 sharp ^0;", 2);
        Checks.faultAt(THING + ";paper t ^1000 1;", 2);
        Checks.faultAt("place ^3600", 2);
        namesAndCounts();
    }

    private static void longTexts() {
        Document.says(TERMS, "1200, if there are more and no FAULT is ahead: TOKENS that begin ahead of it are read whole);");
        Checks.fault("land a;" + Checks.blanks(1193) + ";", 1, 1200);
        Checks.fault(Checks.blanks(1200) + "?", 1, 1200);
        Checks.fault(Checks.blanks(1199) + "? ", 1, 1199);
        Checks.fault("land a;land a;" + Checks.blanks(1187), 3, 12);
        Checks.fault(Checks.blanks(1194) + "land a;", 1, 1200);
        Checks.fault(Checks.blanks(1194) + "land a?", 1, 1200);
        Checks.fault("land" + Checks.blanks(1197), 1, 1200);
        // A TOKEN that begins at 1199 is read up to its end, one that begins at 1200 is not looked at.
        Checks.fault(Checks.blanks(1193) + "place 3600;", 2, 1199);
        Checks.fault(Checks.blanks(1193) + "place 3599;", 1, 1200);
        Checks.fault(Checks.blanks(1194) + "place 3600;", 1, 1200);
        Checks.fault(Checks.blanks(1193) + "place 10000;", 1, 1199);
        Checks.fault(Checks.blanks(1194) + "place 10000;", 1, 1200);
        Checks.fault("land abc;" + Checks.blanks(1185) + "land abc;", 3, 1199);
        Checks.fault("land abc;" + Checks.blanks(1185) + "land abd;", 1, 1200);
        Checks.fault("land a;" + Checks.blanks(1187) + "land ab;", 1, 1200);
        Checks.fault(Checks.blanks(1199) + "land a;", 1, 1200);
        Checks.fault(Checks.blanks(1199) + "lands a;", 1, 1199);
        Checks.fault(Checks.blanks(1200) + "lands a;", 1, 1200);
        Checks.fault(many("land l#;", 8) + Checks.blanks(1199 - 64) + "land x;", 4, 1199);
        Checks.fault(many("land l#;", 8) + Checks.blanks(1200 - 64) + "land x;", 1, 1200);
        Checks.fault(Checks.blanks(1199) + "a".repeat(41), 1, 1199);
        Checks.fault("apart 1;" + Checks.blanks(1191) + "apart 2;", 3, 1199);
    }

    private static void namesAndCounts() {
        Document.says(TERMS, "3 a NAME told twice, not told, or of another sort (at it);");
        Checks.faultAt("land a; land  ^a;", 3);
        Checks.faultAt("thing t ^x 1 2;", 3);
        Checks.faultAt(THING + ";narrow ^x 1;", 3);
        Checks.faultAt(THING + ";paper ^l 1 2;", 3);
        Checks.faultAt(THING + ";narrow ^l 1;", 3);
        Checks.faultAt(THING + ";thing u ^t 1 2;", 3);
        Checks.faultAt("land l;thing t ^t 1 2;", 3);
        Document.says(TERMS, "a PLACE told twice (at its NUMBER);");
        Checks.faultAt("place 5;place ^5;", 3);
        Checks.faultAt("place 5;place  ^0005;", 3);
        Checks.faultAt("place 0;place 1;place 2;place 3;place 4;place ^0;", 3);
        Checks.lines("place 5;place 4;place 6;", 3);
        Document.says(TERMS, "what is told but once told again (at its WORD; paper, narrow of a THING: at the THING);");
        Checks.faultAt("apart 5; ^apart", 3);
        Checks.faultAt("first paper; ^first", 3);
        Checks.faultAt(THING + " loud 1  ^loud 1000;", 3);
        Checks.faultAt(THING + ";paper t 1 2;paper  ^t", 3);
        Checks.faultAt(THING + ";narrow t 1;narrow  ^t 10000;", 3);
        Document.says(TERMS, "4 a ninth LAND, a 17th THING, a seventh PLACE (at the LINE's first WORD).");
        Checks.faultAt(many("land l#;", 8) + " ^land  x;", 4);
        Checks.faultAt("land l;" + many("thing t# l 1 2;", 16) + " ^thing  x l 1 2;", 4);
        Checks.faultAt(many("place @;", 6) + " ^place  9;", 4);
        Checks.lines(many("land l#;", 8) + many("thing t# lh 1 2;", 16) + many("place @;", 6), 30);
        RingPlaces r = Checks.ringOf(many("land l#;", 8) + many("thing t# lh 1 2;", 16) + many("place @;", 6));
        Checks.due("4: each RING has its own", Checks.read(r, "land l;thing t l 1 2;place 1;"), 3);
    }

    // ---- the tape

    private static void tape() {
        Document.says("Promise 1", "An empty RING; an empty tape.");
        RingPlaces r = new RingPlaces();
        Checks.dueAll("1: counts", countsOf(r), 0, 0, 0, 0, 20, 0);
        Checks.due("1: no PLACE", r.place(0), -1);
        Checks.due("1: no THING", Checks.thing(r, 0, 0), Checks.THROWS);
        Checks.due("1: RIGHT", r.judge(), -1);
        Checks.due("1: not a byte", r.end(1), false);
        Checks.due("1: read as it is", r.ring(), 0);
        Checks.due("1: NONE", RingPlaces.NONE, -1);
        Document.says("Promise 2", "Twenty bytes come behind the tape, of each number the highest first:");
        RingPlaces f = new RingPlaces();
        // "land a;place 3598;  " and "apart 123;land bcd; "
        f.feed(0x6c616e64, 0x20613b70, 0x6c616365, 0x20333539, 0x383b2020);
        f.feed(0x61706172, 0x74203132, 0x333b6c61, 0x6e642062, 0x63643b20);
        Checks.due("2: forty bytes are a text", f.ring(), 4);
        Checks.dueAll("2: what it told", new int[] {f.count(0), f.place(0), f.count(4)}, 2, 3598, 123);
        RingPlaces signs = Checks.ringOf(THING + ";thing u l 1 2;");
        signs.feed(0x00010203, 0, 0, 0, 0);
        signs.end(2);
        Checks.due("2: 0 ahead of 1", signs.arc(), 0);
        signs.feed(0x80000000, 0, 0, 0, 0);
        signs.end(1);
        Checks.due("2: a byte of 128", signs.find(), -1);
        signs.feed(0x6c616e64, 0x20e13b20, 0x20202020, 0x20202020, 0x20202020);
        Checks.due("2: a byte of 225 is no letter", signs.ring(), -6);
        Document.says("Promise 2", "how many it has;");
        RingPlaces n = new RingPlaces();
        Checks.due("2: once", n.feed(0, 0, 0, 0, 0), 20);
        Checks.due("2: twice", n.feed(0, 0, 0, 0, 0), 40);
        n.end(33);
        Checks.due("2: behind 33", n.feed(0, 0, 0, 0, 0), 53);
        n.end(0);
        Checks.due("2: behind none", n.feed(-1, -1, -1, -1, -1), 20);
        fullTape();
        Document.says("Promise 3", "The tape has its first n bytes alone: true;");
        RingPlaces e = new RingPlaces();
        e.feed(0x6c616e64, 0x20613b70, 0x6c616365, 0x20333539, 0x383b2020);
        Checks.due("3: all", e.end(20), true);
        Checks.due("3: all are there", e.count(5), 20);
        Checks.due("3: the first seven", e.end(7), true);
        Checks.due("3: seven are there", e.count(5), 7);
        Checks.due("3: the first LINE alone", e.ring(), 1);
        Checks.due("3: none of none", e.end(0), true);
        Document.says("Promise 3", "false, if it has not so many, or n is below 0.");
        Checks.due("3: one of none", e.end(1), false);
        e.feed(0x6c616e64, 0x20613b20, 0x20202020, 0x20202020, 0x20202020);
        Checks.due("3: one more", e.end(21), false);
        Checks.due("3: below 0", e.end(-1), false);
        Checks.due("3: least", e.end(Integer.MIN_VALUE), false);
        Checks.due("3: greatest", e.end(Integer.MAX_VALUE), false);
        Checks.due("3: all stay", e.count(5), 20);
        Checks.due("3: as they were", e.ring(), 1);
        e.feed(0, 0, 0, 0, 0);
        e.end(9);
        Checks.due("3: what was cut off does not come back", e.end(10), false);
        Checks.due("3: down to none", e.end(0) && e.count(5) == 0, true);
    }

    private static int[] countsOf(RingPlaces r) {
        return new int[] {r.count(0), r.count(1), r.count(2), r.count(3), r.count(4), r.count(5)};
    }

    private static void fullTape() {
        Document.says("Promise 2", "NONE, and none come, if it would have more than 1240.");
        RingPlaces r = new RingPlaces();
        r.feed(0x6c616e64, 0x20613b20, 0x20202020, 0x20202020, 0x20202020);
        for (int k = 2; k <= 61; k++) {
            r.feed(0x20202020, 0x20202020, 0x20202020, 0x20202020, 0x20202020);
        }
        Checks.due("2: 1240 fill it", r.feed(0x20202020, 0, 0, 0, 0), 1240);
        Checks.due("2: 1260 would be too many", r.feed(0x20202020, 0, 0, 0, 0), -1);
        Checks.due("2: none came", r.count(5), 1240);
        Checks.due("3: 1221 of them", r.end(1221), true);
        Checks.due("2: 1241 would be too many", r.feed(0x3f3f3f3f, 0, 0, 0, 0), -1);
        Checks.due("2: none came again", r.count(5), 1221);
        Checks.due("3: 1220 of them", r.end(1220), true);
        Checks.due("2: 1240 once more", r.feed(0, 0, 0, 0, 0), 1240);
        Checks.due("3: 1200 of them", r.end(1200), true);
        Checks.due("4: as they came", r.ring(), 1);
    }

    // ---- ring() and fault()

    private static void ringAndFault() {
        Document.says("Promise 4", "The tape (empty then, here and below) is the RING now:");
        RingPlaces r = Checks.ringOf("land l;apart 7;place 5;" + everything());
        Checks.due("4: empty then", r.count(5), 0);
        Checks.read(r, "land l;thing t l 1 2;thing u l 3 4;");
        Checks.dueText("4: nothing is left of the RING ahead", factsOf(r, 0) + factsOf(r, 1), "0 1 2 0 100 5 50 1 -1 -1 -1 -1 -1 -1 cells 0 "
            + "0 3 4 0 100 5 50 1 -1 -1 -1 -1 -1 -1 cells 0 ");
        Checks.dueAll("4: counts", countsOf(r), 1, 2, 0, 0, 20, 0);
        Checks.due("8: no PLACE", r.place(0), -1);
        Checks.due("4: nothing on the tape", r.ring(), 0);
        Checks.dueAll("4: an empty RING", countsOf(r), 0, 0, 0, 0, 20, 0);
        emptied();
        Document.says("Promise 4", "how many LINES;");
        Checks.lines("land a;", 1);
        Checks.lines("land a;land b;land c;", 3);
        Checks.lines("", 0);
        Document.says("Promise 4", "-1 less the place of a FAULT: it stays.");
        RingPlaces f = Checks.ringOf("land l;thing t l 1 2 voice 0;apart 7;place 4;");
        Checks.stand(f, 0, 2, 0);
        String ahead = Checks.state(f, 2);
        Checks.due("4: a FAULT at 0", Checks.read(f, "?"), -1);
        Checks.dueText("4: RING and STANDING stay", Checks.state(f, 2).replace("fault 1", "fault 0"), ahead);
        String twice = "land q;apart 9;place 8;thing s q 5 6 voice 1;land q;";
        Checks.due("4: a FAULT further on", Checks.read(f, twice), -1 - twice.lastIndexOf('q'));
        Checks.dueText("4: they stay, too", Checks.state(f, 2).replace("fault 3", "fault 0"), ahead);
        Checks.due("8: the PLACE stays", f.place(0), 4);
        Checks.due("6: the THING stays", f.thing(0, 2), 2);
        Checks.due("4: a FAULT at 1200", Checks.read(f, Checks.blanks(1201)), -1201);
        Checks.dueText("4: they stay still", Checks.state(f, 2).replace("fault 1", "fault 0"), ahead);
        RingPlaces left = Checks.ringOf("land a;place 7;");
        String[] others = {"7 b;", "? b;", "abcdefg b;", "x b;", "; b;"};
        for (String text : others) {
            Checks.due("4: no WORD is left of the text ahead: " + text, Checks.read(left, text), -1);
        }
        RingPlaces end = Checks.ringOf(THING + " voice 1 loud 5;");
        Checks.due("4: no 'loud' is left behind the end", Checks.read(end, THING + " loud 5"), -1 - (THING.length() + 7));
        Checks.due("5: the end is the FAULT", end.fault(), 1);
        Document.says("Promise 5", "The kind of the FAULT of the latest ring();");
        RingPlaces k = new RingPlaces();
        Checks.read(k, "?");
        Checks.due("5: 1", k.fault(), 1);
        Checks.due("5: 1 still", k.fault(), 1);
        Checks.read(k, "place 3600;");
        Checks.due("5: 2", k.fault(), 2);
        Checks.read(k, "land a;land a;");
        Checks.due("5: 3", k.fault(), 3);
        Checks.read(k, many("place @;", 7));
        Checks.due("5: 4", k.fault(), 4);
        Checks.row(k, 0);
        k.find();
        Checks.due("5: 4 behind other calls", k.fault(), 4);
        Document.says("Promise 5", "0 without one and ahead of any.");
        Checks.due("5: ahead of any", new RingPlaces().fault(), 0);
        k.ring();
        Checks.due("5: without one", k.fault(), 0);
    }

    private static String everything() {
        return many("thing t# l 9 8 ground 0 39 voice 2 loud 7 sharp 7 bear 7 worth 7 dead 7 7;paper t# 7 7 there 7;narrow t# 7;", 2)
            + "first there;";
    }

    private static String factsOf(RingPlaces r, int t) {
        StringBuilder all = new StringBuilder();
        for (int what = 0; what < 14; what++) {
            all.append(Checks.thing(r, t, what)).append(' ');
        }
        return all.append("cells ").append(r.ground(t)).append(' ').toString();
    }

    /** Calls that take the tape empty it, whatever they answer; no other call does. */
    private static void emptied() {
        RingPlaces r = Checks.ringOf(THING + " voice 0;thing u l 1 2 voice 0;thing z l 1 2 dead 1 4;place 1;");
        for (int length = 0; length < 3; length++) {
            for (int call = 0; call < 5; call++) {
                r.feed(0x00010000, 0, 0, 0, 0);
                r.end(length);
                takeTape(r, call);
                Checks.due("4: the tape is empty behind call " + call, r.count(5), 0);
            }
        }
        r.feed(0, 0, 0, 0, 0);
        r.end(13);
        r.fault();
        r.thing(0, 0);
        Checks.thing(r, 9, 0);
        r.ground(0);
        r.place(0);
        r.stand(0, 1, 0);
        r.stand(2, 100, 0);
        r.lift(1);
        r.stands(0, 0);
        r.reach(0, 1);
        r.heard(0);
        r.wrong(0);
        r.judge();
        r.need(0, 1);
        r.orderAt(0);
        r.fit();
        r.fitOf(0);
        r.letIn(1);
        r.narrow();
        r.narrowCost();
        r.sell(0, 1);
        r.good(0, 0);
        r.right(0, 1, 0);
        r.barred(0, 0, 0);
        r.shares(0);
        r.drift(2, 0, 0);
        Checks.drift(r, 0, 0, 0);
        r.meets(2, 0, 0, 0);
        r.image(0);
        r.restore(0);
        Checks.due("4: no other call empties it", r.count(5), 13);
    }

    private static void takeTape(RingPlaces r, int call) {
        switch (call) {
            case 0:
                r.arc();
                break;
            case 1:
                r.shortest();
                break;
            case 2:
                r.find();
                break;
            case 3:
                r.ways();
                break;
            default:
                r.most();
                break;
        }
    }

    // ---- what was told

    private static void tolds() {
        Document.says("Promise 6", "Of THING t: 0 its LAND, 1 FROM, 2 TO, 3 VOICES (bits), 4 loud, 5 sharp, 6 bear, 7 worth,"
            + " 8 AMP (NONE: it is not DEAD), 9 PERIOD (NONE), 10 its paper's DAY (NONE: none), 11 BY (NONE), 12 'there' (NONE),"
            + " 13 COST of narrowing (NONE).");
        RingPlaces r = Checks.ringOf("land k;land l;thing s k 3500 20;thing t l 11 12 voice 0 voice 3 loud 14 sharp 15 bear 16"
            + " worth 17 dead 18 19;thing u k 0 0 dead 0 4;paper t 20 21 there 22;narrow t 23;paper u 0 0;narrow u 0;");
        Checks.dueText("6: untold", factsOf(r, 0), "0 3500 20 0 100 5 50 1 -1 -1 -1 -1 -1 -1 cells 0 ");
        Checks.dueText("6: told", factsOf(r, 1), "1 11 12 9 14 15 16 17 18 19 20 21 22 23 cells 0 ");
        Checks.dueText("6: the least", factsOf(r, 2), "0 0 0 0 100 5 50 1 0 4 0 0 -1 0 cells 0 ");
        Document.says("Promise 6", "NoSuchElementException: no such ones.");
        int[][] none = {{-1, 0}, {3, 0}, {0, -1}, {0, 14}, {2, 14}, {16, 0}, {-1, -1}, {Integer.MIN_VALUE, 0},
            {Integer.MAX_VALUE, 0}, {0, Integer.MIN_VALUE}, {0, Integer.MAX_VALUE}, {-1, 14}, {-1, 20}};
        for (int[] asked : none) {
            Checks.due("6: thing " + asked[0] + ", " + asked[1], Checks.thing(r, asked[0], asked[1]), Checks.THROWS);
        }
        Checks.due("6: the last THING", Checks.thing(r, 2, 13), 0);
        Document.says("Promise 7", "CELLS of THING t as bits;");
        RingPlaces g = Checks.ringOf(THING + " ground 0 0 ground 39 39;thing u l 0 0 ground 31 33;thing v l 0 0;");
        Checks.due("7: both ends", g.ground(0), 1L << 39 | 1);
        Checks.due("7: round 32", g.ground(1), 7L << 31);
        Document.says("Promise 7", "0: no such one, or none.");
        Checks.due("7: none", g.ground(2), 0);
        Checks.due("7: 3", g.ground(3), 0);
        Checks.due("7: -1", g.ground(-1), 0);
        Checks.due("7: 16", g.ground(16), 0);
        Checks.due("7: least", g.ground(Integer.MIN_VALUE), 0);
        Checks.due("7: greatest", g.ground(Integer.MAX_VALUE), 0);
        Checks.read(g, THING + " ground 0 39;");
        Checks.due("7: no such one any more", g.ground(1), 0);
        Document.says("Promise 8", "The degree of PLACE k;");
        RingPlaces p = Checks.ringOf("place 3599;place 0;place 7;place 1;place 2;place 3;");
        Checks.dueAll("8: six", new int[] {p.place(0), p.place(1), p.place(2), p.place(5)}, 3599, 0, 7, 3);
        Document.says("Promise 8", "NONE: no such one.");
        Checks.due("8: six is no such one", p.place(6), -1);
        Checks.due("8: -1", p.place(-1), -1);
        Checks.due("8: least", p.place(Integer.MIN_VALUE), -1);
        Checks.due("8: greatest", p.place(Integer.MAX_VALUE), -1);
        Checks.read(p, "place 9;");
        Checks.dueAll("8: one, and not two", new int[] {p.place(0), p.place(1)}, 9, -1);
    }

    private static void counts() {
        Document.says("Promise 37", "0 LANDS, 1 THINGS, 2 PLACES, 3 how many stand, 4 'apart', 5 bytes of the tape.");
        RingPlaces r = Checks.ringOf("land k;land l;thing a l 0 9;thing b l 0 9;thing c l 0 9;thing z l 0 9 dead 1 4;place 9;apart 33;");
        Checks.dueAll("37: nobody stands", countsOf(r), 2, 4, 1, 0, 33, 0);
        Checks.stand(r, 0, 0, 0, 3, 3599, 3);
        r.feed(0, 0, 0, 0, 0);
        r.end(11);
        Checks.dueAll("37: two stand, a DEAD one too", countsOf(r), 2, 4, 1, 2, 33, 11);
        Checks.stand(r, 0, 5, 1);
        Checks.due("37: one that stood is counted once", r.count(3), 2);
        r.lift(0);
        Checks.due("37: one is lifted", r.count(3), 1);
        Document.says("Promise 37", "NONE for another what.");
        Checks.due("37: 6", r.count(6), -1);
        Checks.due("37: -1", r.count(-1), -1);
        Checks.due("37: least", r.count(Integer.MIN_VALUE), -1);
        Checks.due("37: greatest", r.count(Integer.MAX_VALUE), -1);
    }
}
