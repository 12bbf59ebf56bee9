import java.util.ArrayList;
import java.util.Arrays;
import java.util.LinkedHashMap;
import java.util.List;
import java.util.Map;
import java.util.NoSuchElementException;

/**
 * The document once more, said as plainly as can be and without regard to cost: every set, order
 * and way is tried and judged anew. PlainModelTest holds RingPlaces against it.
 */
final class PlainModel {
    static final int NONE = -1;

    static final class Thing implements Cloneable {
        int land;
        int from;
        int to;
        int voices = 0;
        int loud = 100;
        int sharp = 5;
        int bear = 50;
        int worth = 1;
        int amp = NONE;
        int period = NONE;
        int day = NONE;
        int by = NONE;
        int there = NONE;
        int cost = NONE;
        long ground = 0;
        int degree = NONE;
        int voice = NONE;

        boolean up() {
            return degree != NONE;
        }

        boolean dead() {
            return amp != NONE;
        }

        Thing copy() {
            try {
                return (Thing) clone();
            } catch (CloneNotSupportedException e) {
                throw new IllegalStateException(e);
            }
        }
    }

    static final class State {
        List<Thing> things = new ArrayList<>();
        List<Integer> places = new ArrayList<>();
        int lands = 0;
        int apart = 20;
        boolean thereFirst = false;

        State copy() {
            State s = new State();
            for (Thing t : things) {
                s.things.add(t.copy());
            }
            s.places.addAll(places);
            s.lands = lands;
            s.apart = apart;
            s.thereFirst = thereFirst;
            return s;
        }
    }

    static final class TextFault extends RuntimeException {
        private static final long serialVersionUID = 1L;
        final int kind;
        final int place;

        TextFault(int kind, int place) {
            this.kind = kind;
            this.place = place;
        }
    }

    State now = new State();
    byte[] tape = new byte[0];
    int faultKind = 0;
    List<Integer> order = new ArrayList<>();
    Map<Integer, Integer> fitted = new LinkedHashMap<>();
    int cost = NONE;
    State[] kept = new State[2];

    // ---- the text

    private List<String> tokens;
    private List<Integer> starts;
    private int at;

    private static boolean small(byte b) {
        return b >= 'a' && b <= 'z' || b >= '0' && b <= '9';
    }

    private void cutTokens(byte[] text) {
        tokens = new ArrayList<>();
        starts = new ArrayList<>();
        int k = 0;
        while (k < text.length && k < 1200) {
            if (text[k] == 32 || text[k] == 10) {
                k++;
                continue;
            }
            int from = k;
            k++;
            if (small(text[from])) {
                while (k < text.length && small(text[k])) {
                    k++;
                }
            }
            tokens.add(new String(text, from, k - from, java.nio.charset.StandardCharsets.ISO_8859_1));
            starts.add(from);
        }
        tokens.add("END");
        starts.add(Math.min(1200, text.length));
        at = 0;
    }

    private static final List<String> WORDS = Arrays.asList("land", "thing", "ground", "voice", "loud", "sharp",
        "bear", "worth", "dead", "apart", "place", "first", "paper", "there", "narrow");

    private TextFault bad(int kind) {
        return new TextFault(kind, starts.get(at));
    }

    private int number(int low, int high) {
        if (!tokens.get(at).matches("[0-9]{1,4}")) {
            throw bad(1);
        }
        int n = Integer.parseInt(tokens.get(at));
        if (n < low || n > high) {
            throw bad(2);
        }
        at++;
        return n;
    }

    private String name() {
        String s = tokens.get(at);
        if (!s.matches("[a-z]{1,6}") || WORDS.contains(s)) {
            throw bad(1);
        }
        return s;
    }

    private void onceOnly(List<String> told, String word) {
        if (told.contains(word)) {
            throw bad(3);
        }
        told.add(word);
    }

    private int readText(byte[] text, State s) {
        cutTokens(text);
        Map<String, Integer> landOf = new LinkedHashMap<>();
        Map<String, Integer> thingOf = new LinkedHashMap<>();
        List<String> told = new ArrayList<>();
        int lines = 0;
        while (!tokens.get(at).equals("END")) {
            String word = tokens.get(at);
            switch (word) {
                case "land": {
                    if (s.lands == 8) {
                        throw bad(4);
                    }
                    at++;
                    String n = name();
                    if (landOf.containsKey(n) || thingOf.containsKey(n)) {
                        throw bad(3);
                    }
                    at++;
                    landOf.put(n, s.lands++);
                    break;
                }
                case "thing": {
                    if (s.things.size() == 16) {
                        throw bad(4);
                    }
                    at++;
                    String n = name();
                    if (landOf.containsKey(n) || thingOf.containsKey(n)) {
                        throw bad(3);
                    }
                    at++;
                    Thing t = new Thing();
                    String l = name();
                    if (!landOf.containsKey(l)) {
                        throw bad(3);
                    }
                    at++;
                    t.land = landOf.get(l);
                    t.from = number(0, 3599);
                    t.to = number(0, 3599);
                    readOptions(t);
                    thingOf.put(n, s.things.size());
                    s.things.add(t);
                    break;
                }
                case "apart":
                    onceOnly(told, word);
                    at++;
                    s.apart = number(0, 300);
                    break;
                case "place": {
                    if (s.places.size() == 6) {
                        throw bad(4);
                    }
                    at++;
                    int p = number(0, 3599);
                    if (s.places.contains(p)) {
                        at--;
                        throw bad(3);
                    }
                    s.places.add(p);
                    break;
                }
                case "first":
                    onceOnly(told, word);
                    at++;
                    if (!tokens.get(at).equals("paper") && !tokens.get(at).equals("there")) {
                        throw bad(1);
                    }
                    s.thereFirst = tokens.get(at).equals("there");
                    at++;
                    break;
                case "paper":
                case "narrow": {
                    at++;
                    String n = name();
                    if (!thingOf.containsKey(n)) {
                        throw bad(3);
                    }
                    onceOnly(told, word + " " + n);
                    at++;
                    Thing t = s.things.get(thingOf.get(n));
                    if (word.equals("narrow")) {
                        t.cost = number(0, 9999);
                        break;
                    }
                    t.day = number(0, 999);
                    t.by = number(t.day, 999);
                    if (tokens.get(at).equals("there")) {
                        at++;
                        t.there = number(0, 999);
                    }
                    break;
                }
                default:
                    throw bad(1);
            }
            if (!tokens.get(at).equals(";")) {
                throw bad(1);
            }
            at++;
            lines++;
        }
        if (text.length > 1200) {
            throw bad(1);
        }
        return lines;
    }

    private void readOptions(Thing t) {
        List<String> told = new ArrayList<>();
        while (!tokens.get(at).equals(";")) {
            String word = tokens.get(at);
            if (!Arrays.asList("ground", "voice", "loud", "sharp", "bear", "worth", "dead").contains(word)) {
                throw bad(1);
            }
            if (!word.equals("ground") && !word.equals("voice")) {
                onceOnly(told, word);
            }
            at++;
            switch (word) {
                case "ground": {
                    int a = number(0, 39);
                    int b = number(a, 39);
                    for (int c = a; c <= b; c++) {
                        t.ground |= 1L << c;
                    }
                    break;
                }
                case "voice":
                    t.voices |= 1 << number(0, 3);
                    break;
                case "loud":
                    t.loud = number(1, 999);
                    break;
                case "sharp":
                    t.sharp = number(1, 99);
                    break;
                case "bear":
                    t.bear = number(0, 9999);
                    break;
                case "worth":
                    t.worth = number(0, 9999);
                    break;
                default:
                    t.amp = number(0, 300);
                    t.period = number(4, 999);
                    break;
            }
        }
    }

    // ---- terms

    private static int apart(int x, int y) {
        int up = Math.floorMod(x - y, 3600);
        int down = Math.floorMod(y - x, 3600);
        return Math.min(up, down);
    }

    private static boolean touch(Thing a, Thing b) {
        return (a.ground & b.ground) != 0 && a.voice == b.voice;
    }

    private static int reachOn(Thing a, Thing b) {
        return a.loud * 1000 / (10 + a.sharp * apart(a.degree, b.degree));
    }

    private static int heardBy(State s, Thing t) {
        int sum = 0;
        for (Thing o : s.things) {
            if (o != t && o.up() && touch(o, t)) {
                sum += reachOn(o, t);
            }
        }
        return sum;
    }

    private static boolean inArc(Thing t, int x) {
        for (int d = t.from; ; d = (d + 1) % 3600) {
            if (d == x) {
                return true;
            }
            if (d == t.to) {
                return false;
            }
        }
    }

    private static int wrongOf(State s, Thing t) {
        if (!inArc(t, t.degree)) {
            return 1;
        }
        if ((t.voices & 1 << t.voice) == 0) {
            return 2;
        }
        for (Thing o : s.things) {
            if (o != t && o.up() && touch(o, t) && apart(o.degree, t.degree) < s.apart) {
                return 3;
            }
        }
        return heardBy(s, t) > t.bear ? 4 : 0;
    }

    private static int firstWrong(State s) {
        for (int t = 0; t < s.things.size(); t++) {
            Thing thing = s.things.get(t);
            if (thing.up() && !thing.dead() && wrongOf(s, thing) != 0) {
                return t;
            }
        }
        return NONE;
    }

    private static int needOf(State s, int a, int b) {
        Thing x = s.things.get(a);
        Thing y = s.things.get(b);
        if ((x.ground & y.ground) == 0) {
            return 0;
        }
        for (int n = s.apart; n <= 1800; n++) {
            if (x.loud * 1000 / (10 + x.sharp * n) <= y.bear && y.loud * 1000 / (10 + y.sharp * n) <= x.bear) {
                return n;
            }
        }
        return NONE;
    }

    private int arcOf(List<Integer> row) {
        int[] spot = new int[row.size()];
        for (int k = 0; k < spot.length; k++) {
            for (int j = 0; j < k; j++) {
                int need = needOf(now, row.get(j), row.get(k));
                if (need == NONE) {
                    return NONE;
                }
                spot[k] = Math.max(spot[k], spot[j] + need);
            }
        }
        return spot[spot.length - 1];
    }

    private List<Integer> takeTape(int low, int high, boolean living) {
        byte[] was = tape;
        tape = new byte[0];
        List<Integer> row = new ArrayList<>();
        for (byte b : was) {
            int t = b & 255;
            if (t >= now.things.size() || row.contains(t) || living && now.things.get(t).dead()) {
                return null;
            }
            row.add(t);
        }
        return row.size() < low || row.size() > high ? null : row;
    }

    private boolean has(int t) {
        return t >= 0 && t < now.things.size();
    }

    private boolean up(int t) {
        return has(t) && now.things.get(t).up();
    }

    private static boolean day(int d) {
        return d >= 0 && d <= 999;
    }

    // ---- the calls

    public int feed(int a, int b, int c, int d, int e) {
        if (tape.length + 20 > 1240) {
            return NONE;
        }
        byte[] longer = Arrays.copyOf(tape, tape.length + 20);
        java.nio.ByteBuffer.wrap(longer, tape.length, 20).putInt(a).putInt(b).putInt(c).putInt(d).putInt(e);
        tape = longer;
        return tape.length;
    }

    public boolean end(int n) {
        if (n < 0 || n > tape.length) {
            return false;
        }
        tape = Arrays.copyOf(tape, n);
        return true;
    }

    public int ring() {
        byte[] text = tape;
        tape = new byte[0];
        faultKind = 0;
        State s = new State();
        try {
            int lines = readText(text, s);
            now = s;
            return lines;
        } catch (TextFault f) {
            faultKind = f.kind;
            return -1 - f.place;
        }
    }

    public int fault() {
        return faultKind;
    }

    public int thing(int t, int what) {
        if (!has(t) || what < 0 || what > 13) {
            throw new NoSuchElementException();
        }
        Thing x = now.things.get(t);
        return new int[] {x.land, x.from, x.to, x.voices, x.loud, x.sharp, x.bear, x.worth, x.amp, x.period,
            x.day, x.by, x.there, x.cost}[what];
    }

    public long ground(int t) {
        return has(t) ? now.things.get(t).ground : 0;
    }

    public int place(int k) {
        return k >= 0 && k < now.places.size() ? now.places.get(k) : NONE;
    }

    public boolean stand(int t, int degree, int voice) {
        if (!has(t) || degree < 0 || degree > 3599 || voice < 0 || voice > 3) {
            return false;
        }
        now.things.get(t).degree = degree;
        now.things.get(t).voice = voice;
        return true;
    }

    public boolean lift(int t) {
        if (!up(t)) {
            return false;
        }
        now.things.get(t).degree = NONE;
        now.things.get(t).voice = NONE;
        return true;
    }

    public int stands(int t, int what) {
        if (!up(t) || what < 0 || what > 1) {
            return NONE;
        }
        return what == 0 ? now.things.get(t).degree : now.things.get(t).voice;
    }

    public int reach(int a, int b) {
        if (a == b || !up(a) || !up(b)) {
            return NONE;
        }
        Thing x = now.things.get(a);
        Thing y = now.things.get(b);
        return touch(x, y) ? reachOn(x, y) : 0;
    }

    public int heard(int t) {
        return up(t) ? heardBy(now, now.things.get(t)) : NONE;
    }

    public int wrong(int t) {
        return up(t) && !now.things.get(t).dead() ? wrongOf(now, now.things.get(t)) : NONE;
    }

    public int judge() {
        return firstWrong(now);
    }

    public int need(int a, int b) {
        return a != b && has(a) && has(b) ? needOf(now, a, b) : NONE;
    }

    public int arc() {
        List<Integer> row = takeTape(2, 12, false);
        return row == null ? -2 : arcOf(row);
    }

    public int shortest() {
        List<Integer> row = takeTape(2, 7, false);
        if (row == null) {
            return -2;
        }
        if (arcOf(row) == NONE) {
            return NONE;
        }
        List<Integer> left = new ArrayList<>(row);
        left.sort(null);
        List<List<Integer>> all = new ArrayList<>();
        permute(new ArrayList<>(), left, all);
        int best = Integer.MAX_VALUE;
        for (List<Integer> one : all) {
            int span = arcOf(one);
            if (span < best) {
                best = span;
                order = one;
            }
        }
        return best;
    }

    private static void permute(List<Integer> head, List<Integer> left, List<List<Integer>> all) {
        if (left.isEmpty()) {
            all.add(new ArrayList<>(head));
            return;
        }
        for (Integer x : left) {
            List<Integer> rest = new ArrayList<>(left);
            rest.remove(x);
            head.add(x);
            permute(head, rest, all);
            head.remove(head.size() - 1);
        }
    }

    public int orderAt(int k) {
        return k >= 0 && k < order.size() ? order.get(k) : NONE;
    }

    /** All ways for a row as told, the first ahead; with some not standing, if that is asked. */
    private List<State> allWays(State base, List<Integer> row, boolean some) {
        List<State> ways = new ArrayList<>();
        ways.add(base.copy());
        for (int t : row) {
            ways.get(0).things.get(t).degree = NONE;
            ways.get(0).things.get(t).voice = NONE;
        }
        for (int t : row) {
            List<State> more = new ArrayList<>();
            for (State w : ways) {
                for (int p : w.places) {
                    for (int v = 0; v < 4; v++) {
                        // A voice or a degree that is not its own makes it WRONG whatever else.
                        if ((w.things.get(t).voices & 1 << v) == 0 || !inArc(w.things.get(t), p)) {
                            continue;
                        }
                        State s = w.copy();
                        s.things.get(t).degree = p;
                        s.things.get(t).voice = v;
                        more.add(s);
                    }
                }
                if (some) {
                    more.add(w);
                }
            }
            ways = more;
        }
        List<State> rightOnes = new ArrayList<>();
        for (State w : ways) {
            if (firstWrong(w) == NONE) {
                rightOnes.add(w);
            }
        }
        return rightOnes;
    }

    public int find() {
        List<Integer> row = takeTape(1, 4, true);
        if (row == null) {
            return NONE;
        }
        List<State> all = allWays(now, row, false);
        if (all.isEmpty()) {
            return 0;
        }
        now = all.get(0);
        return 1;
    }

    public int ways() {
        List<Integer> row = takeTape(1, 4, true);
        return row == null ? NONE : allWays(now, row, false).size();
    }

    public int most() {
        List<Integer> row = takeTape(1, 4, true);
        if (row == null) {
            return NONE;
        }
        int best = NONE;
        State bestWay = null;
        for (State w : allWays(now, row, true)) {
            int worth = 0;
            for (int t : row) {
                if (w.things.get(t).up()) {
                    worth += w.things.get(t).worth;
                }
            }
            if (worth > best) {
                best = worth;
                bestWay = w;
            }
        }
        if (bestWay != null) {
            now = bestWay;
        }
        return best;
    }

    public int fit() {
        State s = now.copy();
        for (Thing t : s.things) {
            if (!t.dead()) {
                t.loud = 1;
            }
        }
        boolean changed = true;
        while (changed) {
            changed = false;
            int[] needed = new int[s.things.size()];
            for (int t = 0; t < needed.length; t++) {
                Thing x = s.things.get(t);
                needed[t] = x.loud;
                if (x.up() && !x.dead()) {
                    int want = 1;
                    while (want * 20 < x.bear + 10 * heardBy(s, x)) {
                        want++;
                        if (want > 999) {
                            return NONE;
                        }
                    }
                    needed[t] = want;
                }
            }
            for (int t = 0; t < needed.length; t++) {
                changed |= s.things.get(t).loud != needed[t];
                s.things.get(t).loud = needed[t];
            }
        }
        fitted.clear();
        int sum = 0;
        for (int t = 0; t < s.things.size(); t++) {
            if (s.things.get(t).up() && !s.things.get(t).dead()) {
                fitted.put(t, s.things.get(t).loud);
                sum += s.things.get(t).loud;
            }
        }
        return sum;
    }

    public int fitOf(int t) {
        return fitted.getOrDefault(t, NONE);
    }

    public int letIn(int t) {
        if (!has(t) || now.things.get(t).up() || now.things.get(t).dead()) {
            return -2;
        }
        for (int size = 0; size <= 2; size++) {
            for (int set = 0; set < 1 << now.things.size(); set++) {
                if (Integer.bitCount(set) != size) {
                    continue;
                }
                State found = admit(t, set);
                if (found != null) {
                    now = found;
                    return size;
                }
            }
        }
        return NONE;
    }

    private State admit(int t, int set) {
        List<Integer> row = new ArrayList<>();
        row.add(t);
        for (int m = 0; m < now.things.size(); m++) {
            if ((set >> m & 1) != 0) {
                if (!now.things.get(m).up() || now.things.get(m).dead()) {
                    return null;
                }
                row.add(m);
            }
        }
        for (State w : allWays(now, row, false)) {
            boolean allMoved = true;
            for (int m : row) {
                Thing a = w.things.get(m);
                Thing b = now.things.get(m);
                allMoved &= a.degree != b.degree || a.voice != b.voice;
            }
            if (allMoved) {
                return w;
            }
        }
        return null;
    }

    public int narrow() {
        List<Integer> able = new ArrayList<>();
        for (int t = 0; t < now.things.size(); t++) {
            if (now.things.get(t).up() && now.things.get(t).cost != NONE && able.size() < 6) {
                able.add(t);
            }
        }
        int best = NONE;
        int bestCost = Integer.MAX_VALUE;
        for (int set = 0; set < 1 << now.things.size(); set++) {
            State s = now.copy();
            int sum = 0;
            boolean allAble = true;
            for (int t = 0; t < s.things.size(); t++) {
                if ((set >> t & 1) != 0) {
                    allAble &= able.contains(t);
                    s.things.get(t).sharp = Math.min(99, 2 * s.things.get(t).sharp);
                    sum += s.things.get(t).cost;
                }
            }
            if (allAble && sum < bestCost && firstWrong(s) == NONE) {
                best = set;
                bestCost = sum;
            }
        }
        if (best != NONE) {
            cost = bestCost;
        }
        return best;
    }

    public int narrowCost() {
        return cost;
    }

    public int sell(int a, int b) {
        if (a == b || !up(a) || !up(b)) {
            return NONE;
        }
        State s = now.copy();
        s.things.get(a).degree = now.things.get(b).degree;
        s.things.get(b).degree = now.things.get(a).degree;
        for (int t = 0; t < s.things.size(); t++) {
            Thing x = s.things.get(t);
            if (!x.up()) {
                continue;
            }
            if (!x.dead() && wrongOf(s, x) != 0) {
                return 0;
            }
            if (t != a && t != b && heardBy(s, x) > heardBy(now, now.things.get(t))) {
                return 0;
            }
        }
        now = s;
        return 1;
    }

    private boolean isGood(Thing t, int day) {
        return t.day != NONE && t.day <= day && (day <= t.by || t.there != NONE && t.there <= t.by);
    }

    public int good(int t, int day) {
        return has(t) && day(day) ? (isGood(now.things.get(t), day) ? 1 : 0) : NONE;
    }

    private int rank(Thing t, int day) {
        if (now.thereFirst) {
            return t.there != NONE && t.there <= day ? t.there : NONE;
        }
        return isGood(t, day) ? t.day : NONE;
    }

    private boolean hasRight(int a, int b, int day) {
        if (needOf(now, a, b) == 0) {
            return false;
        }
        int x = rank(now.things.get(a), day);
        int y = rank(now.things.get(b), day);
        return x != NONE && (y == NONE || x < y || x == y && a < b);
    }

    public int right(int a, int b, int day) {
        if (a == b || !has(a) || !has(b) || !day(day)) {
            return -2;
        }
        return hasRight(a, b, day) ? 1 : hasRight(b, a, day) ? -1 : 0;
    }

    public int barred(int t, int day, int what) {
        if (!has(t) || !day(day) || what < 0 || what > 1) {
            return NONE;
        }
        int bits = 0;
        for (int p = 0; p < now.places.size(); p++) {
            if (!inArc(now.things.get(t), now.places.get(p))) {
                continue;
            }
            boolean barred = false;
            boolean told = false;
            for (int o = 0; o < now.things.size(); o++) {
                Thing x = now.things.get(o);
                if (o == t || !isGood(x, day) || x.there != NONE && x.there <= day || !hasRight(o, t, day)) {
                    continue;
                }
                int length = x.to >= x.from ? x.to - x.from : x.to + 3600 - x.from;
                int middle = (x.from + length / 2) % 3600;
                int need = needOf(now, o, t);
                if (need == NONE || apart(now.places.get(p), middle) < need) {
                    barred = true;
                    told |= x.there != NONE;
                }
            }
            if (barred && (what == 0 || !told)) {
                bits |= 1 << p;
            }
        }
        return bits;
    }

    private int bestLands;
    private int bestMoves;

    public int shares(int what) {
        if (what < 0 || what > 1) {
            return NONE;
        }
        bestLands = 0;
        bestMoves = 0;
        share(0, 0, 0);
        return what == 0 ? bestLands : bestMoves;
    }

    private void share(int land, int used, int moves) {
        if (land == now.lands) {
            int lands = Integer.bitCount(used);
            if (lands > bestLands || lands == bestLands && moves < bestMoves) {
                bestLands = lands;
                bestMoves = moves;
            }
            return;
        }
        share(land + 1, used, moves);
        for (Thing t : now.things) {
            for (int p = 0; p < now.places.size() && t.land == land && !t.dead(); p++) {
                if ((used >> p & 1) == 0 && inArc(t, now.places.get(p))) {
                    share(land + 1, used | 1 << p, moves + (t.degree == now.places.get(p) ? 0 : 1));
                }
            }
        }
    }

    public int drift(int t, int x, int day) {
        if (!has(t) || !now.things.get(t).dead() || x < 0 || x > 3599 || !day(day)) {
            throw new NoSuchElementException();
        }
        Thing z = now.things.get(t);
        int s = 4 * z.amp * (day % z.period) / z.period;
        int d = s <= z.amp ? x + s : s <= 3 * z.amp ? x + 2 * z.amp - s : x - 4 * z.amp + s;
        return (d + 3600) % 3600;
    }

    public int meets(int t, int x, int voice, int day) {
        if (!has(t) || !now.things.get(t).dead() || x < 0 || x > 3599 || !day(day) || voice < 0 || voice > 3) {
            return -2;
        }
        for (int d = day; d <= 999; d++) {
            for (Thing o : now.things) {
                if (o.up() && !o.dead() && (o.ground & now.things.get(t).ground) != 0 && o.voice == voice
                    && apart(o.degree, drift(t, x, d)) < now.apart) {
                    return d;
                }
            }
        }
        return NONE;
    }

    public boolean image(int k) {
        if (k < 0 || k > 1) {
            return false;
        }
        kept[k] = now.copy();
        return true;
    }

    public boolean restore(int k) {
        if (k < 0 || k > 1 || kept[k] == null) {
            return false;
        }
        now = kept[k].copy();
        return true;
    }

    public int count(int what) {
        int many = 0;
        for (Thing t : now.things) {
            many += t.up() ? 1 : 0;
        }
        int[] all = {now.lands, now.things.size(), now.places.size(), many, now.apart, tape.length};
        return what >= 0 && what < all.length ? all[what] : NONE;
    }
}
