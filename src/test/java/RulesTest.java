import java.lang.management.ManagementFactory;
import java.lang.reflect.Constructor;
import java.lang.reflect.Field;
import java.lang.reflect.Member;
import java.lang.reflect.Method;
import java.lang.reflect.Modifier;
import java.nio.file.Files;
import java.nio.file.Path;
import java.util.Map;
import java.util.Set;
import java.util.TreeMap;
import java.util.TreeSet;
import java.util.regex.Matcher;
import java.util.regex.Pattern;

/** The face, what can be seen of LANGUAGE.md, and that calls make no objects. */
public final class RulesTest {
    private static final String FACE = "public RingPlaces();"
        + "public int feed(int, int, int, int, int);public boolean end(int);public int ring();public int fault();"
        + "public int thing(int, int);public long ground(int);public int place(int);"
        + "public boolean stand(int, int, int);public boolean lift(int);public int stands(int, int);"
        + "public int reach(int, int);public int heard(int);public int wrong(int);public int judge();"
        + "public int need(int, int);public int arc();public int shortest();public int orderAt(int);"
        + "public int find();public int ways();public int most();public int fit();public int fitOf(int);"
        + "public int letIn(int);public int narrow();public int narrowCost();public int sell(int, int);"
        + "public int good(int, int);public int right(int, int, int);public int barred(int, int, int);"
        + "public int shares(int);public int drift(int, int, int);public int meets(int, int, int, int);"
        + "public boolean image(int);public boolean restore(int);public int count(int);";

    private static int wrong = 0;

    private RulesTest() {
    }

    public static void main(String[] args) throws Exception {
        faceIsAsTold();
        namesAreNotShared();
        classesAreSmall();
        sourceKeepsToTheLanguage();
        callsMakeNoObjects();
        System.exit(wrong == 0 ? 0 : 1);
    }

    private static void must(boolean holds, String what) {
        if (!holds) {
            wrong++;
            System.out.println("not so: " + what);
        }
    }

    private static String types(Class<?>[] types) {
        StringBuilder text = new StringBuilder("(");
        for (Class<?> type : types) {
            text.append(text.length() > 1 ? ", " : "").append(type.getSimpleName());
        }
        return text.append(")").toString();
    }

    private static void faceIsAsTold() throws Exception {
        Set<String> found = new TreeSet<>();
        for (Constructor<?> c : RingPlaces.class.getDeclaredConstructors()) {
            found.add("public RingPlaces" + types(c.getParameterTypes()));
            must(Modifier.isPublic(c.getModifiers()), "1: the constructor is public");
        }
        for (Method m : RingPlaces.class.getDeclaredMethods()) {
            must(Modifier.isPublic(m.getModifiers()) || Modifier.isPrivate(m.getModifiers()), "1: public or private: " + m);
            if (Modifier.isPublic(m.getModifiers())) {
                found.add("public " + m.getReturnType() + " " + m.getName() + types(m.getParameterTypes()));
                boolean tells = m.getName().equals("thing") || m.getName().equals("drift");
                must(m.getExceptionTypes().length == (tells ? 1 : 0), "1: throws of " + m.getName());
            }
        }
        must(found.equals(new TreeSet<>(Set.of(FACE.split(";")))), "1: the face is " + found);
        for (Field f : RingPlaces.class.getDeclaredFields()) {
            must(Modifier.isPrivate(f.getModifiers()) || f.getName().equals("NONE"), "1: private: " + f);
        }
        Field none = RingPlaces.class.getField("NONE");
        must(none.getModifiers() == (Modifier.PUBLIC | Modifier.STATIC | Modifier.FINAL), "1: NONE is public, static and final");
        must(none.getType() == int.class && none.getInt(null) == -1, "1: NONE is the int -1");
        must(RingPlaces.class.getPackageName().isEmpty(), "1: no package");
        must(Modifier.isFinal(RingPlaces.class.getModifiers()), "1: the class is final");
    }

    private static void namesAreNotShared() {
        Set<String> names = new TreeSet<>();
        for (Method m : RingPlaces.class.getMethods()) {
            names.add(m.getName());
        }
        for (Method m : RingPlaces.class.getDeclaredMethods()) {
            must(Modifier.isPublic(m.getModifiers()) || !names.contains(m.getName()), "1: a name of the face: " + m);
        }
        for (Class<?> inside : RingPlaces.class.getDeclaredClasses()) {
            for (Method m : inside.getDeclaredMethods()) {
                must(!names.contains(m.getName()), "1: a name of the face: " + m);
            }
        }
    }

    private static void classesAreSmall() {
        Class<?>[] inside = RingPlaces.class.getDeclaredClasses();
        must(inside.length + 1 <= 12, "11: at most twelve classes");
        isSmall(RingPlaces.class);
        for (Class<?> one : inside) {
            must(Modifier.isStatic(one.getModifiers()), "1: static: " + one);
            must(!Modifier.isPublic(one.getModifiers()), "1: not public: " + one);
            isSmall(one);
        }
    }

    private static void isSmall(Class<?> one) {
        int fields = 0;
        for (Field f : one.getDeclaredFields()) {
            if (!Modifier.isStatic(f.getModifiers())) {
                fields++;
            } else {
                must(Modifier.isFinal(f.getModifiers()), "5: final: " + f);
            }
        }
        must(fields <= 20, "11: at most twenty fields: " + one);
        for (Method m : one.getDeclaredMethods()) {
            must(m.getParameterCount() <= 7, "11: at most seven parameters: " + nameOf(m));
        }
    }

    private static String nameOf(Member m) {
        return m.getDeclaringClass().getSimpleName() + "." + m.getName();
    }

    private static void sourceKeepsToTheLanguage() throws Exception {
        Path path = Path.of(System.getProperty("project.root", "."), "src/main/java/RingPlaces.java");
        String source = Files.readString(path);
        String bare = source.replaceAll("(?s)/\\*.*?\\*/", "").replaceAll("//[^\n]*", "").replaceAll("\"[^\"\n]*\"", "\"\"");
        String[] barred = {"->", "::", "\\bcatch\\b", "\\btry\\b", "\\bfinally\\b", "\\bsynchronized\\b", "\\bassert\\b",
            "\\bstatic\\s*\\{", "\\bpackage\\b", "\\bRandom\\b", "\\bThread\\b", "\\bSystem\\.(?!arraycopy)",
            "\\w+Exact\\b", "\\bprotected\\b", "\\bString\\.format\\b", "\\bnew String\\b", "\\bhashCode\\b"};
        for (String form : barred) {
            must(!Pattern.compile(form).matcher(bare).find(), "LANGUAGE.md: none of " + form);
        }
        must(source.chars().allMatch(c -> c < 128), "4: signs 1 to 127");
        Matcher imports = Pattern.compile("import ([^;]*);").matcher(bare);
        while (imports.find()) {
            must(imports.group(1).equals("java.util.NoSuchElementException"), "4: import " + imports.group(1));
        }
        Matcher thrown = Pattern.compile("throw ([^;]*);").matcher(bare);
        while (thrown.find()) {
            must(thrown.group(1).equals("new NoSuchElementException()"), "6: throw " + thrown.group(1));
        }
        methodsAreShort(source);
        callsAreShallow(bare);
        divisorsAreLookedAt(bare);
    }

    /** A divisor is a written number, a constant, the greater one of 1 and another, or tested on its own line. */
    private static void divisorsAreLookedAt(String bare) {
        Matcher division = Pattern.compile(" [/%] ([^;\n]*)").matcher(bare);
        int seen = 0;
        for (int from = 0; division.find(from); from = division.start(1)) {
            String divisor = division.group(1);
            String ahead = bare.substring(0, division.start());
            String name = divisor.replaceAll("\\W.*", "");
            String told = ahead.substring(Math.max(0, ahead.lastIndexOf("int " + name + " = ")));
            must(divisor.matches("([1-9]\\d*|[A-Z]+)\\b.*|Math\\.max\\(1, .*") || told.startsWith("int " + name + " = Math.max(1, ")
                || ahead.substring(ahead.lastIndexOf('\n')).contains(name + " > 0 ? "), "7: a divisor is looked at: " + divisor);
            seen++;
        }
        must(seen > 0, "7: divisions are seen");
    }

    /** Bodies by names: methods of one name count as one, so the depth is never told too low. */
    private static void callsAreShallow(String bare) {
        Map<String, String> bodies = new TreeMap<>();
        Matcher head = Pattern.compile("(?m)^( {4}| {8})(?!private enum|if |for |while |switch |\\}|return )[^\\s=][^=;\n]*?(\\w+)\\([^;{}]*\\)[^;{}=]*\\{$").matcher(bare);
        while (head.find()) {
            int end = bare.indexOf("\n" + head.group(1) + "}", head.end());
            bodies.merge(head.group(2), bare.substring(head.end(), end), String::concat);
        }
        must(bodies.size() > 100, "11: methods are seen: " + bodies.size());
        Map<String, Integer> depths = new TreeMap<>();
        for (String name : bodies.keySet()) {
            must(depthOf(name, bodies, depths, 0) <= 8, "11: at most eight calls deep: " + name);
        }
    }

    private static int depthOf(String name, Map<String, String> bodies, Map<String, Integer> depths, int open) {
        if (depths.containsKey(name)) {
            return depths.get(name);
        }
        if (open > 40) {
            must(false, "8: methods that call one another: " + name);
            return 0;
        }
        int deepest = 0;
        Matcher calls = Pattern.compile("\\b(\\w+)\\(").matcher(bodies.get(name));
        while (calls.find()) {
            if (bodies.containsKey(calls.group(1)) && !calls.group(1).equals(name)) {
                deepest = Math.max(deepest, depthOf(calls.group(1), bodies, depths, open + 1));
            }
        }
        depths.put(name, deepest + 1);
        return deepest + 1;
    }

    /** A method begins behind an indent of 4 or 8 and ends at the brace of the same indent. */
    private static void methodsAreShort(String source) {
        String[] lines = source.split("\n");
        for (int k = 0; k < lines.length; k++) {
            Matcher head = Pattern.compile("^( {4}| {8})\\S.*\\).*\\{$").matcher(lines[k]);
            if (!head.matches()) {
                continue;
            }
            int end = k;
            while (end < lines.length && !lines[end].equals(head.group(1) + "}")) {
                end++;
            }
            must(end - k < 60, "11: a short method: " + lines[k].trim());
        }
    }

    private static void callsMakeNoObjects() {
        com.sun.management.ThreadMXBean bean = (com.sun.management.ThreadMXBean) ManagementFactory.getThreadMXBean();
        long thread = Thread.currentThread().getId();
        RingPlaces r = Checks.ringOf("land l;thing a l 0 999 ground 0 0 voice 0 voice 1;thing b l 0 999 ground 0 0 voice 0;"
            + "thing z l 0 9 ground 0 0 dead 9 99;place 1;place 500;narrow a 3;narrow b 4;paper a 1 9;paper b 0 8 there 7;");
        callAll(r);
        long before = bean.getThreadAllocatedBytes(thread);
        callAll(r);
        callAll(r);
        long made = bean.getThreadAllocatedBytes(thread) - before;
        // The reading itself may make a little.
        must(made < 1000, "12: calls make no objects, but made bytes: " + made);
    }

    private static void callAll(RingPlaces r) {
        r.stand(0, 1, 0);
        r.stand(2, 900, 0);
        for (int call = 0; call < 5; call++) {
            r.feed(0x00010000, 0, 0, 0, 0);
            r.end(2);
            switch (call) {
                case 0:
                    r.arc();
                    break;
                case 1:
                    r.shortest();
                    break;
                case 2:
                    r.ways();
                    break;
                case 3:
                    r.find();
                    break;
                default:
                    r.most();
                    break;
            }
        }
        r.lift(1);
        r.letIn(1);
        r.fit();
        r.narrow();
        r.sell(0, 1);
        r.barred(0, 5, 0);
        r.barred(1, 5, 1);
        r.shares(0);
        r.meets(2, 0, 0, 0);
        r.image(0);
        r.feed(0x6c616e64, 0x2075733b, 0x706c6163, 0x6520373b, 0);
        r.end(16);
        r.ring();
        r.restore(0);
    }
}
