import java.lang.reflect.Constructor;
import java.lang.reflect.Field;
import java.lang.reflect.Method;
import java.lang.reflect.Modifier;
import java.nio.file.Files;
import java.nio.file.Path;
import java.util.Arrays;
import java.util.HashSet;
import java.util.Set;
import java.util.TreeSet;
import java.util.regex.Matcher;
import java.util.regex.Pattern;

/** The face of the class, and such rules of LANGUAGE.md as can be read off the class and its text. */
public final class RulesTest {
    private static final String FACE = "type(int,int) wipe(int) undo(int) fault(int) head(int,int) couple(int,int) "
        + "weather(int,int) rabbit(int,int) back(int) read(int) state(int,int) lifted(int,int) gets(int,int) "
        + "children(int) without() turn(int) met() keep(int,int) sow(int,int) come(int,int) seen(int,int) forget() "
        + "never() was(int,int) ask(int) chill(int,int,int,int) year(int,int) sheet(int,int,int) lose(int) "
        + "lay(int,int,int,int) get(int,int,int) copy(int,int,int,int,int) write(int,int) count(int) digest()";
    private static final Set<String> LONG_ANSWERS = Set.of("chill", "digest");
    /** What the interface says ahead of which calls. */
    private static final String[][] HEADINGS = {
        {"heads, couples, frosts, rabbits", "type wipe undo fault head couple weather rabbit back read"},
        {"days", "state lifted gets children without turn"},
        {"plans", "met keep sow come"},
        {"seen, chills, years", "seen forget never was ask chill year"},
        {"sheets", "sheet lose lay get copy write count digest"}};
    private static final int CALLS = 512;

    public static void main(String[] args) throws Exception {
        Check check = new Check();
        lookAtFace(check);
        lookAtInnerClasses(check);
        String text = Files.readString(Path.of("src/main/java/CabbageCradles.java"));
        lookAtText(check, text);
        lookAtHeadings(check, text);
        lookAtMethods(check, text);
        neverThrows(check);
        callsMakeNothing(check);
        check.end();
    }

    private static void lookAtFace(Check check) {
        Class<?> face = CabbageCradles.class;
        check.holds("public and final", Modifier.isPublic(face.getModifiers()) && Modifier.isFinal(face.getModifiers()));
        check.due("NONE", -1, CabbageCradles.NONE);
        check.due("BAD", -2, CabbageCradles.BAD);
        check.due("NOT", -3, CabbageCradles.NOT);
        check.due("FULL", -4, CabbageCradles.FULL);
        Set<String> want = new TreeSet<>(Arrays.asList(FACE.split(" ")));
        Set<String> open = new TreeSet<>();
        Set<String> hidden = new HashSet<>();
        for (Method m : face.getDeclaredMethods()) {
            if (m.isSynthetic()) continue;
            if (Modifier.isPrivate(m.getModifiers())) {
                hidden.add(m.getName());
                continue;
            }
            open.add(m.getName() + Arrays.toString(m.getParameterTypes()).replace(" ", "").replace('[', '(').replace(']', ')'));
            check.holds(m + " is public", Modifier.isPublic(m.getModifiers()) && !Modifier.isStatic(m.getModifiers()));
            check.holds(m + " answers", m.getReturnType() == (LONG_ANSWERS.contains(m.getName()) ? long.class : int.class));
        }
        check.holds("the methods are " + open, want.equals(open));
        for (String method : want) {
            check.holds(method + " is no private one's name", !hidden.contains(method.substring(0, method.indexOf('('))));
        }
        Constructor<?>[] makers = face.getDeclaredConstructors();
        check.holds("one public constructor", makers.length == 1 && Modifier.isPublic(makers[0].getModifiers())
            && makers[0].getParameterCount() == 0);
        Set<String> constants = new TreeSet<>();
        for (Field f : face.getDeclaredFields()) {
            if (!Modifier.isPrivate(f.getModifiers())) {
                constants.add(f.getName());
                check.due(f + " is public static final", Modifier.PUBLIC | Modifier.STATIC | Modifier.FINAL, f.getModifiers());
                check.holds(f + " is an int", f.getType() == int.class);
            }
            if (Modifier.isStatic(f.getModifiers())) check.holds(f + " is final", Modifier.isFinal(f.getModifiers()));
        }
        check.holds("the constants are " + constants, constants.equals(Set.of("NONE", "BAD", "NOT", "FULL")));
    }

    private static void lookAtInnerClasses(Check check) {
        Class<?>[] inner = CabbageCradles.class.getDeclaredClasses();
        check.holds("at most twelve classes", inner.length + 1 <= 12);
        for (Class<?> c : inner) {
            check.holds(c + " is static", Modifier.isStatic(c.getModifiers()));
            check.holds(c + " is not open", !Modifier.isPublic(c.getModifiers()) && !Modifier.isProtected(c.getModifiers()));
            int fields = 0;
            for (Field f : c.getDeclaredFields()) {
                if (!Modifier.isStatic(f.getModifiers())) fields++;
                else check.holds(f + " is final", Modifier.isFinal(f.getModifiers()));
            }
            check.holds(c + " has at most twenty fields", fields <= 20);
            for (Method m : c.getDeclaredMethods()) {
                check.holds(m + " has at most seven parameters", m.getParameterCount() <= 7);
            }
        }
    }

    private static void lookAtText(Check check, String text) {
        String code = text.replaceAll("(?s)/\\*.*?\\*/", "").replaceAll("//.*", "").replaceAll("\"[^\"]*\"", "\"\"");
        String[] words = {"throw", "throws", "try", "catch", "finally", "synchronized", "assert", "package", "Object",
            "hashCode", "toString", "random", "Thread", "nanoTime", "currentTimeMillis", "getenv", "Exact", "MIN_VALUE",
            "MAX_VALUE", "double", "float", "protected"};
        for (String word : words) check.holds("no " + word, !Pattern.compile("\\b\\w*" + word + "\\b").matcher(code).find());
        check.holds("no lambda, no method reference", !code.contains("->") && !code.contains("::"));
        Matcher imports = Pattern.compile("import ([\\w.*]+);").matcher(code);
        while (imports.find()) check.holds("import " + imports.group(1), imports.group(1).equals("java.util.Arrays"));
        for (int i = 0; i < text.length(); i++) check.holds("plain signs", text.charAt(i) < 127);
        check.holds("no loop without a test", !code.contains("for (;;)") && !code.contains("while (true)"));
    }

    private static void lookAtHeadings(Check check, String text) {
        String[] said = text.split("\\n    // ---- ");
        for (int i = 0; i < HEADINGS.length; i++) {
            boolean isThere = i + 1 < said.length && said[i + 1].startsWith(HEADINGS[i][0] + "\n");
            check.holds("ahead of the calls the interface says: " + HEADINGS[i][0], isThere);
            if (isThere) check.holds("behind it come " + HEADINGS[i][1], openMethods(said[i + 1]).equals(HEADINGS[i][1]));
        }
    }

    private static String openMethods(String text) {
        StringBuilder names = new StringBuilder();
        Matcher m = Pattern.compile("\n    public \\w+ (\\w+)\\(").matcher(text);
        while (m.find()) names.append(names.length() == 0 ? "" : " ").append(m.group(1));
        return names.toString();
    }

    /** A method ends at the first closing bracket that stands as far in as the line with which it begins. */
    private static void lookAtMethods(Check check, String text) {
        Matcher m = Pattern.compile("(?m)^( {4,8})[\\w ]+\\[?\\]? ?\\w+\\(([^()\\n]*)\\) \\{\\n((?s:.*?))^\\1\\}$").matcher(text);
        int methods = 0;
        while (m.find()) {
            methods++;
            String first = m.group().substring(0, m.group().indexOf('\n'));
            check.holds("some sixty lines at most: " + first, m.group(3).split("\n").length <= 60);
            check.holds("seven parameters at most: " + first, m.group(2).split(",").length <= 7);
        }
        check.holds("methods were found", methods > FACE.split(" ").length);
    }

    /** Every call with every mix of odd numbers, on a field that is full of everything. */
    private static void neverThrows(Check check) throws Exception {
        int[] odd = {Integer.MIN_VALUE, -61, -2, -1, 0, 1, 2, 3, 7, 8, 9, 29, 39, 40, 60, 61, 255, 256, Integer.MAX_VALUE};
        for (String heads : new String[] {"", "s29;s00;r29;r00;p29;p00;s15;p15", "s0", "p01"}) {
            for (Method m : CabbageCradles.class.getDeclaredMethods()) {
                if (!Modifier.isPublic(m.getModifiers())) continue;
                CabbageCradles x = fullField(heads);
                int n = m.getParameterCount();
                Object[] given = new Object[n];
                int cases = n > 3 ? 20000 : (int) Math.pow(odd.length, n);
                java.util.Random random = new java.util.Random(5);
                for (int k = 0; k < cases; k++) {
                    if (k % 400 == 399) x = fullField(heads);
                    for (int i = 0, rest = k; i < n; i++, rest /= odd.length) {
                        given[i] = odd[n > 3 ? random.nextInt(odd.length) : rest % odd.length];
                    }
                    try {
                        m.invoke(x, given);
                    } catch (java.lang.reflect.InvocationTargetException e) {
                        check.holds(m.getName() + Arrays.toString(given) + " threw " + e.getCause(), false);
                    }
                }
            }
        }
    }

    /** All calls of a run share one room, so what is needed is made with the object: its arrays, and no more. */
    private static void callsMakeNothing(Check check) {
        String heads = "s29;s00;r29;r00;p29;p00;s15;p15";
        var counter = (com.sun.management.ThreadMXBean) java.lang.management.ManagementFactory.getThreadMXBean();
        long me = Thread.currentThread().getId();
        // the first look and the first calls load classes
        counter.getThreadAllocatedBytes(me);
        askAll(fullField(heads));
        CabbageCradles x = fullField(heads);
        long before = counter.getThreadAllocatedBytes(me);
        askAll(x);
        long made = counter.getThreadAllocatedBytes(me) - before;
        check.holds("calls made " + made + " bytes of objects", made < CALLS);
    }

    private static void askAll(CabbageCradles x) {
        for (int i = 0; i < 8; i++) {
            x.digest();
            x.chill(5, i, i, 0);
            x.year(i, 0);
            x.back(2);
            x.rabbit(i, i);
            x.forget();
            x.seen(i, i);
            x.undo(0);
            x.type(0, '0' + i);
            x.sheet(i % 4, 2, 60);
            x.copy(2, 0, 2, 1, 9);
            x.write(i, 3);
            x.read(i % 4);
            x.lay(0, 2, i, i);
            x.get(0, 2, i);
            x.lose(i % 4);
        }
    }

    private static CabbageCradles fullField(String heads) {
        CabbageCradles x = new CabbageCradles();
        String couples = "a299;s299;r009;p291;a009;a151;s159;r001";
        for (int i = 0; i < heads.length(); i++) x.type(0, heads.charAt(i));
        for (int i = 0; i < couples.length(); i++) x.type(1, couples.charAt(i));
        for (int i = 0; i < 6; i++) x.weather(0, 29 - i % 3);
        for (int i = 0; i < 6; i++) x.weather(1, 39 - 10 * (i % 3));
        for (int i = 0; i < 8; i++) x.rabbit(39 - i * 5, i);
        for (int s = 0; s < 3; s++) x.sheet(s, s, 60);
        x.seen(0, 8);
        return x;
    }
}
