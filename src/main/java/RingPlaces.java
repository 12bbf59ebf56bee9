import java.util.NoSuchElementException;

/**
 * A ring over the earth's middle on which things hang still. The numbered promises of the
 * document say what each public call answers; README.md says how the parts inside share the work.
 */
public final class RingPlaces {
    public static final int NONE = -1;

    private static final int NOT_AS_TOLD = -2;

    private static final int MOST_BYTES = 1200;
    private static final int TAPE_ROOM = 1240;
    private static final int FEED_BYTES = 20;
    private static final int MOST_LANDS = 8;
    private static final int MOST_THINGS = 16;
    private static final int MOST_PLACES = 6;
    private static final int VOICES = 4;
    private static final int DEGREES = 3600;
    private static final int DAYS = 1000;
    private static final int LAST_CELL = 39;
    private static final int WIDEST = 1800;
    private static final int MOST_LOUD = 999;
    private static final int MOST_SHARP = 99;
    private static final int MOST_APART = 300;
    private static final int MOST_AMP = 300;
    private static final int LEAST_PERIOD = 4;
    private static final int MOST_PERIOD = 999;
    private static final int MOST_NUMBER = 9999;
    private static final int APART_UNTOLD = 20;
    private static final int MOST_IN_ROW = 12;
    private static final int MOST_IN_ORDER = 7;
    private static final int MOST_FOUND = 4;
    private static final int MOST_NARROWED = 6;
    private static final int IMAGES = 2;

    // What is told of a THING, numbered as thing(t, what) asks for it.
    private static final int LAND = 0;
    private static final int FROM = 1;
    private static final int TO = 2;
    private static final int OWN_VOICES = 3;
    private static final int LOUD = 4;
    private static final int SHARP = 5;
    private static final int BEAR = 6;
    private static final int WORTH = 7;
    private static final int AMP = 8;
    private static final int PERIOD = 9;
    private static final int PAPER_DAY = 10;
    private static final int BY = 11;
    private static final int THERE = 12;
    private static final int COST = 13;
    private static final int FACTS = 14;

    private final byte[] tape = new byte[TAPE_ROOM];
    private int tapeLength = 0;
    private int faultKind = 0;
    private final int[] row = new int[MOST_IN_ROW];
    private int rowLength = 0;
    private final Reader reader;
    private final Ring ring;
    private final Standing standing;
    private final Standing trial;
    private final Orders orders;
    private final Search search;
    private final Loudness loudness;
    private final Narrowing narrowing;
    private final Papers papers;
    private final Shares sharing;
    private final boolean[] kept = new boolean[IMAGES];
    private final Ring[] keptRings = new Ring[IMAGES];
    private final Standing[] keptStandings = new Standing[IMAGES];

    public RingPlaces() {
        reader = new Reader(tape);
        ring = new Ring();
        standing = new Standing(ring);
        trial = new Standing(ring);
        orders = new Orders(ring);
        search = new Search(standing, trial);
        loudness = new Loudness(standing);
        narrowing = new Narrowing(standing, trial);
        papers = new Papers(ring);
        sharing = new Shares(standing);
        for (int k = 0; k < IMAGES; k++) {
            keptRings[k] = new Ring();
            keptStandings[k] = new Standing(keptRings[k]);
        }
    }

    public int feed(int a, int b, int c, int d, int e) {
        if (tapeLength + FEED_BYTES > TAPE_ROOM) {
            return NONE;
        }
        append(a);
        append(b);
        append(c);
        append(d);
        append(e);
        return tapeLength;
    }

    public boolean end(int n) {
        if (n < 0 || n > tapeLength) {
            return false;
        }
        tapeLength = n;
        return true;
    }

    public int ring() {
        int answer = reader.readText(tapeLength);
        tapeLength = 0;
        faultKind = reader.faultKind;
        if (answer >= 0) {
            ring.copyFrom(reader.draft);
            standing.clear();
        }
        return answer;
    }

    public int fault() {
        return faultKind;
    }

    public int thing(int t, int what) throws NoSuchElementException {
        if (!ring.has(t) || what < 0 || what >= FACTS) {
            throw new NoSuchElementException();
        }
        return ring.told(t, what);
    }

    public long ground(int t) {
        return ring.has(t) ? ring.cells[t] : 0L;
    }

    public int place(int k) {
        return k >= 0 && k < ring.placeCount ? ring.places[k] : NONE;
    }

    public boolean stand(int t, int degree, int voice) {
        if (!ring.has(t) || !isDegree(degree) || !isVoice(voice)) {
            return false;
        }
        if (standing.isUp(t)) {
            standing.take(t);
        }
        standing.put(t, degree, voice);
        return true;
    }

    public boolean lift(int t) {
        if (!hasUp(t)) {
            return false;
        }
        standing.take(t);
        return true;
    }

    public int stands(int t, int what) {
        if (!hasUp(t)) {
            return NONE;
        }
        if (what == 0) {
            return standing.degree[t];
        }
        return what == 1 ? standing.voice[t] : NONE;
    }

    public int reach(int a, int b) {
        if (a == b || !hasUp(a) || !hasUp(b)) {
            return NONE;
        }
        return standing.touching(a, b) ? standing.reachOn(a, b) : 0;
    }

    public int heard(int t) {
        return hasUp(t) ? standing.hears[t] : NONE;
    }

    public int wrong(int t) {
        return ring.has(t) && standing.isLiving(t) ? standing.wrongOf(t) : NONE;
    }

    public int judge() {
        return standing.firstWrong();
    }

    public int need(int a, int b) {
        return a != b && ring.has(a) && ring.has(b) ? ring.needOf(a, b) : NONE;
    }

    public int arc() {
        return takeRow(2, MOST_IN_ROW) ? orders.arcOf(row, rowLength) : NOT_AS_TOLD;
    }

    public int shortest() {
        return takeRow(2, MOST_IN_ORDER) ? orders.shortestOf(row, rowLength) : NOT_AS_TOLD;
    }

    public int orderAt(int k) {
        return k >= 0 && k < orders.answerLength ? orders.answer[k] : NONE;
    }

    public int find() {
        if (!takeLiving()) {
            return NONE;
        }
        return search.findFirst(row, rowLength) ? 1 : 0;
    }

    public int ways() {
        return takeLiving() ? search.countWays(row, rowLength) : NONE;
    }

    public int most() {
        return takeLiving() ? search.findMost(row, rowLength) : NONE;
    }

    public int fit() {
        return loudness.settle();
    }

    public int fitOf(int t) {
        // Whether there is such a one is asked of the RING of that fit(), which another may have followed.
        return t >= 0 && t < MOST_THINGS ? loudness.answer[t] : NONE;
    }

    public int letIn(int t) {
        if (!ring.has(t) || standing.isUp(t) || ring.isDead(t)) {
            return NOT_AS_TOLD;
        }
        return search.admit(t);
    }

    public int narrow() {
        return narrowing.cheapestSet();
    }

    public int narrowCost() {
        return narrowing.answerCost;
    }

    public int sell(int a, int b) {
        if (a == b || !hasUp(a) || !hasUp(b)) {
            return NONE;
        }
        trial.copyFrom(standing);
        trial.swapDegrees(a, b);
        if (!isSaleLet(a, b)) {
            return 0;
        }
        standing.copyFrom(trial);
        return 1;
    }

    public int good(int t, int day) {
        if (!ring.has(t) || !isDay(day)) {
            return NONE;
        }
        return papers.isGood(t, day) ? 1 : 0;
    }

    public int right(int a, int b, int day) {
        if (a == b || !ring.has(a) || !ring.has(b) || !isDay(day)) {
            return NOT_AS_TOLD;
        }
        return papers.rightOf(a, b, day);
    }

    public int barred(int t, int day, int what) {
        if (!ring.has(t) || !isDay(day) || what < 0 || what > 1) {
            return NONE;
        }
        return what == 0 ? papers.barredFor(t, day) : papers.clearedFor(t, day);
    }

    public int shares(int what) {
        if (what < 0 || what > 1) {
            return NONE;
        }
        sharing.divide();
        return what == 0 ? sharing.lands : sharing.moves;
    }

    public int drift(int t, int x, int day) throws NoSuchElementException {
        if (!hasDead(t) || !isDegree(x) || !isDay(day)) {
            throw new NoSuchElementException();
        }
        return ring.driftOf(t, x, day);
    }

    public int meets(int t, int x, int voice, int day) {
        if (!hasDead(t) || !isDegree(x) || !isVoice(voice) || !isDay(day)) {
            return NOT_AS_TOLD;
        }
        for (int d = day; d < DAYS; d++) {
            if (standing.isMetAt(t, ring.driftOf(t, x, d), voice)) {
                return d;
            }
        }
        return NONE;
    }

    public boolean image(int k) {
        if (k < 0 || k >= IMAGES) {
            return false;
        }
        keptRings[k].copyFrom(ring);
        keptStandings[k].copyFrom(standing);
        kept[k] = true;
        return true;
    }

    public boolean restore(int k) {
        if (k < 0 || k >= IMAGES || !kept[k]) {
            return false;
        }
        ring.copyFrom(keptRings[k]);
        standing.copyFrom(keptStandings[k]);
        return true;
    }

    public int count(int what) {
        switch (what) {
            case 0: return ring.lands;
            case 1: return ring.things;
            case 2: return ring.placeCount;
            case 3: return standing.howManyUp();
            case 4: return ring.apart;
            case 5: return tapeLength;
            default: return NONE;
        }
    }

    private void append(int number) {
        for (int shift = 24; shift >= 0 && tapeLength < TAPE_ROOM; shift -= 8) {
            tape[tapeLength] = (byte) (number >>> shift);
            tapeLength++;
        }
    }

    private static boolean isDegree(int x) {
        return x >= 0 && x < DEGREES;
    }

    private static boolean isVoice(int voice) {
        return voice >= 0 && voice < VOICES;
    }

    private static boolean isDay(int day) {
        return day >= 0 && day < DAYS;
    }

    private boolean hasUp(int t) {
        return ring.has(t) && standing.isUp(t);
    }

    private boolean hasDead(int t) {
        return ring.has(t) && ring.isDead(t);
    }

    /** Empties the tape into the row; false, if it is no row of unlike THINGS of such a length. */
    private boolean takeRow(int least, int longest) {
        rowLength = 0;
        int length = tapeLength;
        tapeLength = 0;
        if (length < least || length > longest || length > MOST_IN_ROW) {
            return false;
        }
        for (int k = 0; k < length; k++) {
            int t = tape[k] & 255;
            if (!ring.has(t) || isInRow(t)) {
                return false;
            }
            row[rowLength] = t;
            rowLength++;
        }
        return true;
    }

    private boolean isInRow(int t) {
        for (int k = 0; k < rowLength; k++) {
            if (row[k] == t) {
                return true;
            }
        }
        return false;
    }

    private boolean takeLiving() {
        if (!takeRow(1, MOST_FOUND)) {
            return false;
        }
        for (int k = 0; k < rowLength; k++) {
            if (ring.isDead(row[k])) {
                return false;
            }
        }
        return true;
    }

    private boolean isSaleLet(int a, int b) {
        if (trial.firstWrong() != NONE) {
            return false;
        }
        for (int o = 0; o < ring.things; o++) {
            if (o != a && o != b && trial.hears[o] > standing.hears[o]) {
                return false;
            }
        }
        return true;
    }

    /** How far two degrees are from one another, the shorter way round. */
    private static int gapBetween(int x, int y) {
        int gap = x < y ? y - x : x - y;
        return gap <= DEGREES - gap ? gap : DEGREES - gap;
    }

    private static int reachAt(int loud, int sharp, int gap) {
        int divisor = 10 + sharp * gap;
        return divisor > 0 ? loud * 1000 / divisor : 0;
    }

    /** The words of the text's grammar; no NAME is one of them. */
    private enum Word {
        LAND_LINE("land", NONE, 0, 0),
        THING_LINE("thing", NONE, 0, 0),
        APART_LINE("apart", NONE, 0, 0),
        PLACE_LINE("place", NONE, 0, 0),
        FIRST_LINE("first", NONE, 0, 0),
        PAPER_LINE("paper", NONE, 0, 0),
        NARROW_LINE("narrow", NONE, 0, 0),
        THERE_PART("there", NONE, 0, 0),
        GROUND_PART("ground", NONE, 0, 0),
        VOICE_PART("voice", NONE, 0, 0),
        DEAD_PART("dead", NONE, 0, 0),
        LOUD_PART("loud", LOUD, 1, MOST_LOUD),
        SHARP_PART("sharp", SHARP, 1, MOST_SHARP),
        BEAR_PART("bear", BEAR, 0, MOST_NUMBER),
        WORTH_PART("worth", WORTH, 0, MOST_NUMBER);

        private static final Word[] ALL = values();

        /** What of a THING the one number behind this word tells; NONE for the other words. */
        final int what;
        final int least;
        final int greatest;
        private final String text;

        Word(String text, int what, int least, int greatest) {
            this.text = text;
            this.what = what;
            this.least = least;
            this.greatest = greatest;
        }

        /** The word that lies on the tape from one place up to another; null, if none does. */
        static Word lyingAt(byte[] tape, int from, int to) {
            for (int k = 0; k < ALL.length; k++) {
                if (ALL[k].lies(tape, from, to)) {
                    return ALL[k];
                }
            }
            return null;
        }

        private boolean lies(byte[] tape, int from, int to) {
            if (from < 0 || to > tape.length || to - from != text.length()) {
                return false;
            }
            for (int k = 0; k < text.length(); k++) {
                if (tape[from + k] != text.charAt(k)) {
                    return false;
                }
            }
            return true;
        }
    }

    /** The TOKENS of a tape, all cut ahead of reading; the last one is its end. */
    private static final class Tokens {
        static final int AT_END = 0;
        static final int NO_TOKEN = 1;
        static final int SEMICOLON = 2;
        static final int NUMBER = 3;
        static final int NAME = 4;
        static final int GRAMMAR_WORD = 5;

        private static final int ROOM = MOST_BYTES + 1;
        private static final int MOST_LETTERS = 6;
        private static final int MOST_DIGITS = 4;

        final int[] kinds = new int[ROOM];
        final int[] starts = new int[ROOM];
        /** A NUMBER's value; of a NAME a number that no other NAME has. */
        final int[] values = new int[ROOM];
        /** The grammar's word; null for any other TOKEN. */
        final Word[] words = new Word[ROOM];
        int last = 0;

        private final byte[] tape;
        private int length = 0;
        private int next = 0;

        Tokens(byte[] tape) {
            this.tape = tape;
        }

        void cut(int tapeLength) {
            length = Math.min(tapeLength, tape.length);
            int bound = Math.min(length, MOST_BYTES);
            last = 0;
            next = 0;
            while (next < bound && last < MOST_BYTES) {
                if (tape[next] == ' ' || tape[next] == '\n') {
                    next++;
                } else {
                    cutOne();
                    last++;
                }
            }
            starts[last] = bound;
            kinds[last] = AT_END;
            words[last] = null;
        }

        private void cutOne() {
            starts[last] = next;
            words[last] = null;
            if (isLetter(tape[next]) || isDigit(tape[next])) {
                cutRun();
            } else {
                kinds[last] = tape[next] == ';' ? SEMICOLON : NO_TOKEN;
                next++;
            }
        }

        /** A TOKEN that begins ahead of the bound is cut whole, so the tape's length ends it. */
        private void cutRun() {
            int start = next;
            int letters = 0;
            int value = 0;
            while (next < length && (isLetter(tape[next]) || isDigit(tape[next]))) {
                if (isLetter(tape[next])) {
                    letters++;
                    value = value * 27 + tape[next] - 'a' + 1;
                } else {
                    value = value * 10 + tape[next] - '0';
                }
                next++;
            }
            values[last] = value;
            if (letters == 0) {
                kinds[last] = next - start <= MOST_DIGITS ? NUMBER : NO_TOKEN;
            } else if (letters == next - start && letters <= MOST_LETTERS) {
                words[last] = Word.lyingAt(tape, start, next);
                kinds[last] = words[last] == null ? NAME : GRAMMAR_WORD;
            } else {
                kinds[last] = NO_TOKEN;
            }
        }

        private static boolean isLetter(byte sign) {
            return sign >= 'a' && sign <= 'z';
        }

        private static boolean isDigit(byte sign) {
            return sign >= '0' && sign <= '9';
        }
    }

    /** Reads a text into a draft, so that the RING itself stays where there is a FAULT. */
    private static final class Reader {
        private static final int CANNOT_COME = 1;
        private static final int BAD_NUMBER = 2;
        private static final int BAD_NAME = 3;
        private static final int TOO_MANY = 4;

        final Ring draft = new Ring();
        int faultKind = 0;

        private int faultPlace = 0;
        private final Tokens tokens;
        /** The TOKEN that is looked at. */
        private int at = 0;
        private final int[] landNames = new int[MOST_LANDS];
        private final int[] thingNames = new int[MOST_THINGS];
        private boolean apartTold = false;
        private boolean firstTold = false;
        /** Bits of what was told of the THING that is being read, where it is told but once. */
        private int toldOnce = 0;
        private int number = 0;

        Reader(byte[] tape) {
            tokens = new Tokens(tape);
        }

        /** How many LINES; -1 less the place of the FAULT. */
        int readText(int length) {
            tokens.cut(length);
            at = 0;
            draft.clear();
            faultKind = 0;
            faultPlace = 0;
            apartTold = false;
            firstTold = false;
            int lines = 0;
            while (lines < MOST_BYTES && tokens.kinds[at] != Tokens.AT_END) {
                if (!readLine(tokens.words[at]) || !passSemicolon()) {
                    return -1 - faultPlace;
                }
                lines++;
            }
            if (length > MOST_BYTES) {
                refuse(CANNOT_COME);
                return -1 - faultPlace;
            }
            return lines;
        }

        /** The FAULT is at the TOKEN that is looked at. */
        private boolean refuse(int kind) {
            faultKind = kind;
            faultPlace = tokens.starts[at];
            return false;
        }

        private void pass() {
            if (at < tokens.last) {
                at++;
            }
        }

        private boolean passSemicolon() {
            if (tokens.kinds[at] != Tokens.SEMICOLON) {
                return refuse(CANNOT_COME);
            }
            pass();
            return true;
        }

        private boolean readLine(Word word) {
            if (word == Word.LAND_LINE) {
                return readLand();
            }
            if (word == Word.THING_LINE) {
                return readThing();
            }
            if (word == Word.APART_LINE) {
                return readApart();
            }
            if (word == Word.PLACE_LINE) {
                return readPlace();
            }
            if (word == Word.FIRST_LINE) {
                return readFirst();
            }
            if (word == Word.PAPER_LINE) {
                return readPaper();
            }
            return word == Word.NARROW_LINE ? readNarrow() : refuse(CANNOT_COME);
        }

        private boolean readLand() {
            if (draft.lands >= MOST_LANDS) {
                return refuse(TOO_MANY);
            }
            pass();
            if (!isNewName()) {
                return false;
            }
            landNames[draft.lands] = tokens.values[at];
            draft.lands++;
            pass();
            return true;
        }

        private boolean readThing() {
            if (draft.things >= MOST_THINGS) {
                return refuse(TOO_MANY);
            }
            pass();
            if (!isNewName()) {
                return false;
            }
            int t = draft.things;
            thingNames[t] = tokens.values[at];
            pass();
            int land = indexOfName(landNames, draft.lands);
            if (land == NONE) {
                return false;
            }
            pass();
            draft.addThing(land);
            toldOnce = 0;
            boolean read = readFact(t, FROM, 0, DEGREES - 1) && readFact(t, TO, 0, DEGREES - 1);
            for (int k = 0; k < MOST_BYTES && read && tokens.kinds[at] != Tokens.SEMICOLON; k++) {
                read = readPart(t, tokens.words[at]);
            }
            return read;
        }

        private boolean readPart(int t, Word word) {
            if (word == Word.GROUND_PART) {
                return readGround(t);
            }
            if (word == Word.VOICE_PART) {
                return readVoice(t);
            }
            if (word == Word.DEAD_PART) {
                return passOnce(AMP) && readFact(t, AMP, 0, MOST_AMP)
                    && readFact(t, PERIOD, LEAST_PERIOD, MOST_PERIOD);
            }
            if (word == null || word.what == NONE) {
                return refuse(CANNOT_COME);
            }
            return passOnce(word.what) && readFact(t, word.what, word.least, word.greatest);
        }

        private boolean readGround(int t) {
            pass();
            if (!isNumber(0, LAST_CELL)) {
                return false;
            }
            int first = number;
            pass();
            if (!isNumber(first, LAST_CELL)) {
                return false;
            }
            pass();
            draft.addCells(t, first, number);
            return true;
        }

        private boolean readVoice(int t) {
            pass();
            if (!isNumber(0, VOICES - 1)) {
                return false;
            }
            pass();
            draft.addVoice(t, number);
            return true;
        }

        private boolean readApart() {
            if (apartTold) {
                return refuse(BAD_NAME);
            }
            apartTold = true;
            pass();
            if (!isNumber(0, MOST_APART)) {
                return false;
            }
            pass();
            draft.apart = number;
            return true;
        }

        private boolean readPlace() {
            if (draft.placeCount >= MOST_PLACES) {
                return refuse(TOO_MANY);
            }
            pass();
            if (!isNumber(0, DEGREES - 1)) {
                return false;
            }
            if (draft.hasPlaceAt(number)) {
                return refuse(BAD_NAME);
            }
            pass();
            draft.places[draft.placeCount] = number;
            draft.placeCount++;
            return true;
        }

        private boolean readFirst() {
            if (firstTold) {
                return refuse(BAD_NAME);
            }
            firstTold = true;
            pass();
            Word word = tokens.words[at];
            if (word != Word.PAPER_LINE && word != Word.THERE_PART) {
                return refuse(CANNOT_COME);
            }
            draft.thereFirst = word == Word.THERE_PART;
            pass();
            return true;
        }

        private boolean readPaper() {
            int t = passThing(PAPER_DAY);
            if (t == NONE || !readFact(t, PAPER_DAY, 0, DAYS - 1)
                || !readFact(t, BY, draft.told(t, PAPER_DAY), DAYS - 1)) {
                return false;
            }
            if (tokens.words[at] != Word.THERE_PART) {
                return true;
            }
            pass();
            return readFact(t, THERE, 0, DAYS - 1);
        }

        private boolean readNarrow() {
            int t = passThing(COST);
            return t != NONE && readFact(t, COST, 0, MOST_NUMBER);
        }

        /** Passes a LINE's word and its THING, of which this must not be told yet; NONE: a FAULT. */
        private int passThing(int what) {
            pass();
            int t = indexOfName(thingNames, draft.things);
            if (t == NONE) {
                return NONE;
            }
            if (draft.told(t, what) != NONE) {
                refuse(BAD_NAME);
                return NONE;
            }
            pass();
            return t;
        }

        private boolean passOnce(int what) {
            if ((toldOnce >> what & 1) != 0) {
                return refuse(BAD_NAME);
            }
            toldOnce |= 1 << what;
            pass();
            return true;
        }

        private boolean isNewName() {
            if (tokens.kinds[at] != Tokens.NAME) {
                return refuse(CANNOT_COME);
            }
            if (indexOf(landNames, draft.lands) != NONE
                || indexOf(thingNames, draft.things) != NONE) {
                return refuse(BAD_NAME);
            }
            return true;
        }

        /** The number of the NAME that is looked at; NONE: a FAULT. */
        private int indexOfName(int[] names, int length) {
            if (tokens.kinds[at] != Tokens.NAME) {
                refuse(CANNOT_COME);
                return NONE;
            }
            int found = indexOf(names, length);
            if (found == NONE) {
                refuse(BAD_NAME);
            }
            return found;
        }

        private int indexOf(int[] names, int length) {
            for (int k = 0; k < length && k < names.length; k++) {
                if (names[k] == tokens.values[at]) {
                    return k;
                }
            }
            return NONE;
        }

        private boolean readFact(int t, int what, int least, int greatest) {
            if (!isNumber(least, greatest)) {
                return false;
            }
            pass();
            draft.tell(t, what, number);
            return true;
        }

        private boolean isNumber(int least, int greatest) {
            if (tokens.kinds[at] != Tokens.NUMBER) {
                return refuse(CANNOT_COME);
            }
            number = tokens.values[at];
            return number >= least && number <= greatest || refuse(BAD_NUMBER);
        }
    }

    /** What a text tells. */
    private static final class Ring {
        final long[] cells = new long[MOST_THINGS];
        final int[] places = new int[MOST_PLACES];
        int lands = 0;
        int things = 0;
        int placeCount = 0;
        int apart = APART_UNTOLD;
        boolean thereFirst = false;

        private final int[] facts = new int[MOST_THINGS * FACTS];

        void clear() {
            lands = 0;
            things = 0;
            placeCount = 0;
            apart = APART_UNTOLD;
            thereFirst = false;
        }

        void copyFrom(Ring other) {
            System.arraycopy(other.cells, 0, cells, 0, MOST_THINGS);
            System.arraycopy(other.places, 0, places, 0, MOST_PLACES);
            System.arraycopy(other.facts, 0, facts, 0, MOST_THINGS * FACTS);
            lands = other.lands;
            things = other.things;
            placeCount = other.placeCount;
            apart = other.apart;
            thereFirst = other.thereFirst;
        }

        boolean has(int t) {
            return t >= 0 && t < things;
        }

        int told(int t, int what) {
            int k = t * FACTS + what;
            return k >= 0 && k < facts.length ? facts[k] : NONE;
        }

        void tell(int t, int what, int value) {
            int k = t * FACTS + what;
            if (k >= 0 && k < facts.length) {
                facts[k] = value;
            }
        }

        /** The next THING, with all that holds of it without being told. */
        void addThing(int land) {
            if (things >= MOST_THINGS) {
                return;
            }
            int t = things;
            things++;
            cells[t] = 0;
            for (int what = 0; what < FACTS; what++) {
                tell(t, what, NONE);
            }
            tell(t, LAND, land);
            tell(t, OWN_VOICES, 0);
            tell(t, LOUD, 100);
            tell(t, SHARP, 5);
            tell(t, BEAR, 50);
            tell(t, WORTH, 1);
        }

        void addCells(int t, int first, int last) {
            for (int cell = first; cell <= last; cell++) {
                cells[t] |= 1L << cell;
            }
        }

        void addVoice(int t, int voice) {
            tell(t, OWN_VOICES, told(t, OWN_VOICES) | 1 << voice);
        }

        boolean hasPlaceAt(int degree) {
            for (int p = 0; p < placeCount; p++) {
                if (places[p] == degree) {
                    return true;
                }
            }
            return false;
        }

        boolean isDead(int t) {
            return facts[t * FACTS + AMP] != NONE;
        }

        boolean hasVoice(int t, int voice) {
            return (facts[t * FACTS + OWN_VOICES] >> voice & 1) != 0;
        }

        boolean shareCell(int a, int b) {
            return (cells[a] & cells[b]) != 0;
        }

        boolean isInArc(int t, int degree) {
            int from = facts[t * FACTS + FROM];
            int to = facts[t * FACTS + TO];
            if (from <= to) {
                return degree >= from && degree <= to;
            }
            return degree >= from || degree <= to;
        }

        int middleOfArc(int t) {
            int from = told(t, FROM);
            int way = Math.floorMod(told(t, TO) - from, DEGREES);
            return (from + way / 2) % DEGREES;
        }

        /** NEED of two unlike THINGS; NONE, if there is none. */
        int needOf(int a, int b) {
            if (!shareCell(a, b)) {
                return 0;
            }
            int need = Math.max(apart, Math.max(quietFrom(a, b), quietFrom(b, a)));
            return need <= WIDEST ? need : NONE;
        }

        /** The least gap with which a REACHES b by no more than b bears. */
        private int quietFrom(int a, int b) {
            // The REACH, cut, is bear at most if and only if its divisor is above this quotient.
            int quotient = told(a, LOUD) * 1000 / Math.max(1, told(b, BEAR) + 1);
            int sharp = Math.max(1, told(a, SHARP));
            int wanted = quotient + 1 - 10;
            return wanted <= 0 ? 0 : (wanted + sharp - 1) / sharp;
        }

        /** Where a DEAD THING that was told at x is on a day. */
        int driftOf(int t, int x, int day) {
            int amp = told(t, AMP);
            int period = Math.max(1, told(t, PERIOD));
            int s = 4 * amp * (day % period) / period;
            int swing;
            if (s <= amp) {
                swing = s;
            } else if (s <= 3 * amp) {
                swing = 2 * amp - s;
            } else {
                swing = s - 4 * amp;
            }
            return Math.floorMod(x + swing, DEGREES);
        }
    }

    /**
     * Who stands where, with which VOICE. What each hears is kept along with every put and take,
     * so that a search need not add it all anew for each way that it tries.
     */
    private static final class Standing {
        final Ring ring;
        final int[] degree = new int[MOST_THINGS];
        final int[] voice = new int[MOST_THINGS];
        final int[] loud = new int[MOST_THINGS];
        final int[] sharp = new int[MOST_THINGS];
        final int[] hears = new int[MOST_THINGS];

        /** How many that each one TOUCHES are less than 'apart' from it. */
        private final int[] tooNear = new int[MOST_THINGS];

        Standing(Ring ring) {
            this.ring = ring;
            for (int t = 0; t < MOST_THINGS; t++) {
                degree[t] = NONE;
                voice[t] = NONE;
            }
        }

        /** Nobody stands, and each is as loud and as sharp as told. */
        void clear() {
            for (int t = 0; t < MOST_THINGS; t++) {
                degree[t] = NONE;
                voice[t] = NONE;
                loud[t] = ring.told(t, LOUD);
                sharp[t] = ring.told(t, SHARP);
                hears[t] = 0;
                tooNear[t] = 0;
            }
        }

        void copyFrom(Standing other) {
            System.arraycopy(other.degree, 0, degree, 0, MOST_THINGS);
            System.arraycopy(other.voice, 0, voice, 0, MOST_THINGS);
            System.arraycopy(other.loud, 0, loud, 0, MOST_THINGS);
            System.arraycopy(other.sharp, 0, sharp, 0, MOST_THINGS);
            System.arraycopy(other.hears, 0, hears, 0, MOST_THINGS);
            System.arraycopy(other.tooNear, 0, tooNear, 0, MOST_THINGS);
        }

        boolean isUp(int t) {
            return degree[t] != NONE;
        }

        /** Whether it stands and is not DEAD. */
        boolean isLiving(int t) {
            return degree[t] != NONE && !ring.isDead(t);
        }

        int howManyUp() {
            int many = 0;
            for (int t = 0; t < ring.things; t++) {
                if (isUp(t)) {
                    many++;
                }
            }
            return many;
        }

        void put(int t, int newDegree, int newVoice) {
            degree[t] = newDegree;
            voice[t] = newVoice;
            meetAll(t, 1);
        }

        void take(int t) {
            meetAll(t, -1);
            degree[t] = NONE;
            voice[t] = NONE;
        }

        void swapDegrees(int a, int b) {
            int degreeOfA = degree[a];
            int voiceOfA = voice[a];
            int degreeOfB = degree[b];
            int voiceOfB = voice[b];
            take(a);
            take(b);
            put(a, degreeOfB, voiceOfA);
            put(b, degreeOfA, voiceOfB);
        }

        private void meetAll(int t, int sign) {
            for (int o = 0; o < ring.things; o++) {
                if (o == t || !touching(t, o)) {
                    continue;
                }
                int gap = gapBetween(degree[t], degree[o]);
                hears[o] += sign * reachAt(loud[t], sharp[t], gap);
                hears[t] += sign * reachAt(loud[o], sharp[o], gap);
                if (gap < ring.apart) {
                    tooNear[o] += sign;
                    tooNear[t] += sign;
                }
            }
        }

        boolean touching(int a, int b) {
            return degree[a] != NONE && degree[b] != NONE && voice[a] == voice[b]
                && (ring.cells[a] & ring.cells[b]) != 0;
        }

        int reachOn(int a, int b) {
            return reachAt(loud[a], sharp[a], gapBetween(degree[a], degree[b]));
        }

        /** WRONG of one that stands and is not DEAD. */
        int wrongOf(int t) {
            if (!ring.isInArc(t, degree[t])) {
                return 1;
            }
            if (!ring.hasVoice(t, voice[t])) {
                return 2;
            }
            if (tooNear[t] > 0) {
                return 3;
            }
            return hears[t] > ring.told(t, BEAR) ? 4 : 0;
        }

        int firstWrong() {
            for (int t = 0; t < ring.things; t++) {
                if (isLiving(t) && wrongOf(t) != 0) {
                    return t;
                }
            }
            return NONE;
        }

        /** Whether a DEAD one that has come to a degree meets one that stands. */
        boolean isMetAt(int dead, int x, int itsVoice) {
            for (int o = 0; o < ring.things; o++) {
                if (isLiving(o) && voice[o] == itsVoice && ring.shareCell(dead, o)
                    && gapBetween(x, degree[o]) < ring.apart) {
                    return true;
                }
            }
            return false;
        }
    }

    /** ARC of a row, and SHORTEST of all its orders. */
    private static final class Orders {
        /** The order by the latest SHORTEST that there was. */
        final int[] answer = new int[MOST_IN_ORDER];
        int answerLength = 0;

        private final Ring ring;
        private final int[] sorted = new int[MOST_IN_ORDER];
        private final int[] order = new int[MOST_IN_ORDER];
        private final int[] spot = new int[MOST_IN_ROW];
        private int length = 0;
        private int best = 0;

        Orders(Ring ring) {
            this.ring = ring;
        }

        int arcOf(int[] row, int rowLength) {
            for (int k = 0; k < rowLength; k++) {
                spot[k] = spotBehind(row, k, row[k]);
                if (spot[k] == NONE) {
                    return NONE;
                }
            }
            return rowLength > 0 ? spot[rowLength - 1] : 0;
        }

        /** The least spot for t behind the first k of a row; NONE, if it has no NEED with one. */
        private int spotBehind(int[] row, int k, int t) {
            int least = 0;
            for (int j = 0; j < k; j++) {
                int need = ring.needOf(row[j], t);
                if (need == NONE) {
                    return NONE;
                }
                least = Math.max(least, spot[j] + need);
            }
            return least;
        }

        int shortestOf(int[] row, int rowLength) {
            best = arcOf(row, rowLength);
            if (best == NONE || rowLength > MOST_IN_ORDER) {
                return NONE;
            }
            length = rowLength;
            sortRow(row);
            // One more than the told order's, so that the first of the like ones is found anew.
            best++;
            tryOrders(0, 0);
            return best;
        }

        private void sortRow(int[] row) {
            for (int k = 0; k < length; k++) {
                int j = k;
                while (j > 0 && sorted[j - 1] > row[k]) {
                    sorted[j] = sorted[j - 1];
                    j--;
                }
                sorted[j] = row[k];
            }
        }

        private void tryOrders(int k, int used) {
            if (k >= length) {
                best = spot[length - 1];
                answerLength = length;
                System.arraycopy(order, 0, answer, 0, length);
                return;
            }
            for (int j = 0; j < length; j++) {
                if ((used >> j & 1) != 0) {
                    continue;
                }
                int next = spotBehind(order, k, sorted[j]);
                if (next < best) {
                    spot[k] = next;
                    order[k] = sorted[j];
                    tryOrders(k + 1, used | 1 << j);
                }
            }
        }
    }

    /**
     * PLACES and VOICES for some THINGS. One more that stands never makes a WRONG one right, so a
     * search goes no further behind the first few if those are WRONG already.
     */
    private static final class Search {
        private final Ring ring;
        private final Standing standing;
        private final Standing trial;
        private final int[] wanted = new int[MOST_FOUND];
        private int length = 0;
        /** Whether each must lie otherwise than it does now. */
        private boolean otherwise = false;
        private int bestWorth = NONE;
        private final int[] bestDegree = new int[MOST_FOUND];
        private final int[] bestVoice = new int[MOST_FOUND];

        Search(Standing standing, Standing trial) {
            this.ring = standing.ring;
            this.standing = standing;
            this.trial = trial;
        }

        boolean findFirst(int[] row, int rowLength) {
            begin(row, rowLength);
            if (!isRight() || !placeFrom(0)) {
                return false;
            }
            standing.copyFrom(trial);
            return true;
        }

        int countWays(int[] row, int rowLength) {
            begin(row, rowLength);
            return isRight() ? waysFrom(0) : 0;
        }

        int findMost(int[] row, int rowLength) {
            begin(row, rowLength);
            if (!isRight()) {
                return NONE;
            }
            bestWorth = NONE;
            mostFrom(0, 0);
            for (int k = 0; k < length; k++) {
                if (bestDegree[k] != NONE) {
                    trial.put(wanted[k], bestDegree[k], bestVoice[k]);
                }
            }
            standing.copyFrom(trial);
            return bestWorth;
        }

        /** LET IN: how many are moved, and all stand so; NONE: it can't be. */
        int admit(int t) {
            if (admitMoving(t, NONE, NONE)) {
                return 0;
            }
            for (int a = 0; a < ring.things; a++) {
                if (standing.isLiving(a) && admitMoving(t, a, NONE)) {
                    return 1;
                }
            }
            // The greater one leads, for sets go by their bits.
            for (int b = 0; b < ring.things; b++) {
                for (int a = 0; a < b; a++) {
                    if (standing.isLiving(a) && standing.isLiving(b) && admitMoving(t, a, b)) {
                        return 2;
                    }
                }
            }
            return NONE;
        }

        private boolean admitMoving(int t, int a, int b) {
            trial.copyFrom(standing);
            otherwise = true;
            length = 0;
            want(t);
            want(a);
            want(b);
            if (!isRight() || !placeFrom(0)) {
                return false;
            }
            standing.copyFrom(trial);
            return true;
        }

        private void begin(int[] row, int rowLength) {
            trial.copyFrom(standing);
            otherwise = false;
            length = 0;
            for (int k = 0; k < rowLength; k++) {
                want(row[k]);
            }
        }

        /** One more to be placed: it is lifted, if it stands. */
        private void want(int t) {
            if (!ring.has(t) || length >= MOST_FOUND) {
                return;
            }
            wanted[length] = t;
            length++;
            if (trial.isUp(t)) {
                trial.take(t);
            }
        }

        private boolean isRight() {
            return trial.firstWrong() == NONE;
        }

        /** Puts t to a PLACE with a VOICE, if all is RIGHT with it. */
        private boolean putRightly(int t, int p, int voice) {
            int degree = ring.places[p];
            if (!ring.hasVoice(t, voice) || !ring.isInArc(t, degree)) {
                return false;
            }
            if (otherwise && standing.degree[t] == degree && standing.voice[t] == voice) {
                return false;
            }
            trial.put(t, degree, voice);
            if (trial.firstWrong() == NONE) {
                return true;
            }
            trial.take(t);
            return false;
        }

        private boolean placeFrom(int k) {
            if (k >= length) {
                return true;
            }
            int t = wanted[k];
            for (int p = 0; p < ring.placeCount; p++) {
                for (int voice = 0; voice < VOICES; voice++) {
                    if (!putRightly(t, p, voice)) {
                        continue;
                    }
                    if (placeFrom(k + 1)) {
                        return true;
                    }
                    trial.take(t);
                }
            }
            return false;
        }

        private int waysFrom(int k) {
            if (k >= length) {
                return 1;
            }
            int t = wanted[k];
            int ways = 0;
            for (int p = 0; p < ring.placeCount; p++) {
                for (int voice = 0; voice < VOICES; voice++) {
                    if (putRightly(t, p, voice)) {
                        ways += waysFrom(k + 1);
                        trial.take(t);
                    }
                }
            }
            return ways;
        }

        private void mostFrom(int k, int worth) {
            if (worth + worthFrom(k) <= bestWorth) {
                return;
            }
            if (k >= length) {
                keepBest(worth);
                return;
            }
            int t = wanted[k];
            for (int p = 0; p < ring.placeCount; p++) {
                for (int voice = 0; voice < VOICES; voice++) {
                    if (putRightly(t, p, voice)) {
                        mostFrom(k + 1, worth + ring.told(t, WORTH));
                        trial.take(t);
                    }
                }
            }
            mostFrom(k + 1, worth);
        }

        private int worthFrom(int k) {
            int worth = 0;
            for (int j = k; j < length; j++) {
                worth += ring.told(wanted[j], WORTH);
            }
            return worth;
        }

        private void keepBest(int worth) {
            bestWorth = worth;
            for (int k = 0; k < length; k++) {
                bestDegree[k] = trial.degree[wanted[k]];
                bestVoice[k] = trial.voice[wanted[k]];
            }
        }
    }

    /** FIT. */
    private static final class Loudness {
        /** What each needed by the latest FIT that there was; NONE for those that had no part in it. */
        final int[] answer = new int[MOST_THINGS];

        private final Ring ring;
        private final Standing standing;
        private final int[] loud = new int[MOST_THINGS];
        private final int[] next = new int[MOST_THINGS];

        Loudness(Standing standing) {
            this.ring = standing.ring;
            this.standing = standing;
            for (int t = 0; t < MOST_THINGS; t++) {
                answer[t] = NONE;
            }
        }

        int settle() {
            for (int t = 0; t < ring.things; t++) {
                loud[t] = ring.isDead(t) ? ring.told(t, LOUD) : 1;
            }
            // What is needed never falls, so at worst each round makes one of them louder by 1.
            for (int round = 0; round <= MOST_THINGS * MOST_LOUD; round++) {
                if (!hearAnew()) {
                    return NONE;
                }
                if (!takeNext()) {
                    return keepAnswer();
                }
            }
            return NONE;
        }

        /** What each needs by the loudness of all now; false, if one needs too much. */
        private boolean hearAnew() {
            for (int t = 0; t < ring.things; t++) {
                next[t] = standing.isLiving(t) ? neededBy(t) : loud[t];
                if (next[t] > MOST_LOUD) {
                    return false;
                }
            }
            return true;
        }

        private int neededBy(int t) {
            int hears = 0;
            for (int o = 0; o < ring.things; o++) {
                if (o != t && standing.touching(o, t)) {
                    int gap = gapBetween(standing.degree[o], standing.degree[t]);
                    hears += reachAt(loud[o], ring.told(o, SHARP), gap);
                }
            }
            return Math.max(1, (ring.told(t, BEAR) + 10 * hears + 19) / 20);
        }

        private boolean takeNext() {
            boolean changed = false;
            for (int t = 0; t < ring.things; t++) {
                if (next[t] != loud[t]) {
                    loud[t] = next[t];
                    changed = true;
                }
            }
            return changed;
        }

        private int keepAnswer() {
            int sum = 0;
            for (int t = 0; t < MOST_THINGS; t++) {
                answer[t] = NONE;
                if (t < ring.things && standing.isLiving(t)) {
                    answer[t] = loud[t];
                    sum += loud[t];
                }
            }
            return sum;
        }
    }

    /** NARROW. */
    private static final class Narrowing {
        /** The COST by the latest NARROW that there was. */
        int answerCost = NONE;

        private final Ring ring;
        private final Standing standing;
        private final Standing trial;
        private final int[] able = new int[MOST_NARROWED];
        private int ableCount = 0;

        Narrowing(Standing standing, Standing trial) {
            this.ring = standing.ring;
            this.standing = standing;
            this.trial = trial;
        }

        /** The set as bits of THINGS; NONE, if no set does. */
        int cheapestSet() {
            gatherAble();
            int best = NONE;
            int bestCost = 0;
            for (int set = 0; set < 1 << ableCount; set++) {
                int cost = costOf(set);
                if ((best == NONE || cost < bestCost) && isRightWith(set)) {
                    best = thingsOf(set);
                    bestCost = cost;
                }
            }
            if (best != NONE) {
                answerCost = bestCost;
            }
            return best;
        }

        private void gatherAble() {
            ableCount = 0;
            for (int t = 0; t < ring.things && ableCount < MOST_NARROWED; t++) {
                if (standing.isUp(t) && ring.told(t, COST) != NONE) {
                    able[ableCount] = t;
                    ableCount++;
                }
            }
        }

        private int costOf(int set) {
            int cost = 0;
            for (int k = 0; k < ableCount; k++) {
                if ((set >> k & 1) != 0) {
                    cost += ring.told(able[k], COST);
                }
            }
            return cost;
        }

        private int thingsOf(int set) {
            int things = 0;
            for (int k = 0; k < ableCount; k++) {
                if ((set >> k & 1) != 0) {
                    things |= 1 << able[k];
                }
            }
            return things;
        }

        private boolean isRightWith(int set) {
            trial.clear();
            for (int k = 0; k < ableCount; k++) {
                if ((set >> k & 1) != 0) {
                    trial.sharp[able[k]] = Math.min(MOST_SHARP, 2 * trial.sharp[able[k]]);
                }
            }
            for (int t = 0; t < ring.things; t++) {
                if (standing.isUp(t)) {
                    trial.put(t, standing.degree[t], standing.voice[t]);
                }
            }
            return trial.firstWrong() == NONE;
        }
    }

    /** PAPERS: whose is GOOD, who has RIGHT over whom, and which PLACES are BARRED by that. */
    private static final class Papers {
        private final Ring ring;

        Papers(Ring ring) {
            this.ring = ring;
        }

        boolean isGood(int t, int day) {
            int told = ring.told(t, PAPER_DAY);
            if (told == NONE || told > day) {
                return false;
            }
            return day <= ring.told(t, BY) || wasThereBy(t, ring.told(t, BY));
        }

        private boolean wasThereBy(int t, int day) {
            int there = ring.told(t, THERE);
            return there != NONE && there <= day;
        }

        private int rankOf(int t, int day) {
            if (ring.thereFirst) {
                return wasThereBy(t, day) ? ring.told(t, THERE) : NONE;
            }
            return isGood(t, day) ? ring.told(t, PAPER_DAY) : NONE;
        }

        /** 1: a has RIGHT over b; -1: b has it; 0: neither. */
        int rightOf(int a, int b, int day) {
            if (ring.needOf(a, b) == 0) {
                return 0;
            }
            int rankOfA = rankOf(a, day);
            int rankOfB = rankOf(b, day);
            if (rankOfA == NONE && rankOfB == NONE) {
                return 0;
            }
            if (rankOfA == NONE || rankOfB == NONE) {
                return rankOfB == NONE ? 1 : -1;
            }
            if (rankOfA == rankOfB) {
                return a < b ? 1 : -1;
            }
            return rankOfA < rankOfB ? 1 : -1;
        }

        int barredFor(int t, int day) {
            int bits = 0;
            for (int o = 0; o < ring.things; o++) {
                bits |= barredBy(o, t, day);
            }
            return bits;
        }

        int clearedFor(int t, int day) {
            int bits = 0;
            int held = 0;
            for (int o = 0; o < ring.things; o++) {
                if (ring.told(o, THERE) == NONE) {
                    bits |= barredBy(o, t, day);
                } else {
                    held |= barredBy(o, t, day);
                }
            }
            return bits & ~held;
        }

        private int barredBy(int o, int t, int day) {
            if (o == t || !isGood(o, day) || wasThereBy(o, day) || rightOf(o, t, day) != 1) {
                return 0;
            }
            int need = ring.needOf(o, t);
            int middle = ring.middleOfArc(o);
            int bits = 0;
            for (int p = 0; p < ring.placeCount; p++) {
                int degree = ring.places[p];
                if (ring.isInArc(t, degree)
                    && (need == NONE || gapBetween(degree, middle) < need)) {
                    bits |= 1 << p;
                }
            }
            return bits;
        }
    }

    /** SHARES. */
    private static final class Shares {
        private static final int SETS = 1 << MOST_PLACES;

        int lands = 0;
        int moves = 0;

        private final Ring ring;
        private final Standing standing;
        /** For each set of PLACES: the fewest moves with which some LANDS have just these; NONE. */
        private final int[] fewest = new int[SETS];
        /** The moves that each PLACE would cost the LAND that is added; NONE: it may not lie there. */
        private final int[] movesTo = new int[MOST_PLACES];

        Shares(Standing standing) {
            this.ring = standing.ring;
            this.standing = standing;
        }

        void divide() {
            for (int set = 0; set < SETS; set++) {
                fewest[set] = set == 0 ? 0 : NONE;
            }
            for (int land = 0; land < ring.lands; land++) {
                for (int p = 0; p < ring.placeCount; p++) {
                    movesTo[p] = movesOf(land, p);
                }
                addLand();
            }
            pickBest();
        }

        /** The greater sets first, so that no set is built upon one that has this LAND already. */
        private void addLand() {
            for (int set = SETS - 1; set > 0; set--) {
                for (int p = 0; p < ring.placeCount; p++) {
                    if ((set >> p & 1) != 0) {
                        offer(set, set ^ 1 << p, movesTo[p]);
                    }
                }
            }
        }

        private void offer(int set, int without, int more) {
            if (more == NONE || fewest[without] == NONE) {
                return;
            }
            int sum = fewest[without] + more;
            if (fewest[set] == NONE || sum < fewest[set]) {
                fewest[set] = sum;
            }
        }

        /** 0, if one of the LAND's THINGS lies at the PLACE; 1, if one may; NONE, if none may. */
        private int movesOf(int land, int p) {
            int degree = ring.places[p];
            int moves = NONE;
            for (int t = 0; t < ring.things; t++) {
                if (ring.told(t, LAND) != land || ring.isDead(t) || !ring.isInArc(t, degree)) {
                    continue;
                }
                if (standing.degree[t] == degree) {
                    return 0;
                }
                moves = 1;
            }
            return moves;
        }

        private void pickBest() {
            lands = 0;
            moves = 0;
            for (int set = 1; set < SETS; set++) {
                int size = Integer.bitCount(set);
                if (fewest[set] == NONE || size < lands) {
                    continue;
                }
                if (size > lands || fewest[set] < moves) {
                    lands = size;
                    moves = fewest[set];
                }
            }
        }
    }
}
