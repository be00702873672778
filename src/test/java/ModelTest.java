import java.util.Random;

/** Runs of 512 calls, as many as an object is good for, drawn by a fixed seed, put to the program and the model. */
public final class ModelTest {
    private static final int RUNS = 300;
    private static final int CALLS = 512;
    /** Enough for both texts typed anew and a digest, with a look at the latest finding behind each call. */
    private static final int CALLS_TO_END = 230;
    private static final String[] NAMES = {"type", "wipe", "undo", "fault", "head", "couple", "weather", "rabbit",
        "back", "read", "state", "lifted", "gets", "children", "without", "turn", "met", "keep", "sow", "come",
        "seen", "forget", "never", "was", "ask", "chill", "year", "sheet", "lose", "lay", "get", "copy", "write",
        "count", "digest"};

    private final Random random;
    private final Check check;
    private final int run;
    private int asked = 0;
    private CabbageCradles program = new CabbageCradles();
    private Model model = new Model();

    private ModelTest(int run, Check check) {
        this.run = run;
        this.check = check;
        random = new Random(7919L * run + 13);
    }

    public static void main(String[] args) {
        Check check = new Check();
        for (int run = 0; run < RUNS && check.isClean(); run++) new ModelTest(run, check).play();
        check.end();
    }

    private void play() {
        int lastDay = random.nextBoolean() ? 7 : 30;
        typeAll(0, parts(0, lastDay));
        typeAll(1, parts(1, lastDay));
        for (int i = random.nextInt(5); i > 0; i--) call(6, 0, random.nextInt(lastDay));
        for (int i = random.nextInt(4); i > 0; i--) call(6, 1, random.nextInt(lastDay));
        for (int i = random.nextInt(9); i > 0; i--) call(7, random.nextInt(lastDay), random.nextInt(8));
        for (int i = random.nextInt(3); i > 0; i--) seeWhatHappened();
        boolean endsWhole = run % 4 == 0;
        int most = endsWhole ? CALLS - CALLS_TO_END : CALLS;
        while (asked < most && check.isClean()) {
            int which = random.nextInt(100) < 3 ? random.nextInt(3) : 3 + random.nextInt(31);
            call(which, number(which, 0), number(which, 1), number(which, 2), number(which, 3), number(which, 4));
            if (random.nextInt(40) == 0) retype(random.nextInt(2), lastDay);
            if (random.nextInt(40) == 0) seeWhatHappened();
        }
        if (endsWhole) endWhole(lastDay);
    }

    private String parts(int text, int lastDay) {
        StringBuilder parts = new StringBuilder();
        for (int n = random.nextInt(9); n > 0; n--) {
            if (parts.length() > 0) parts.append(';');
            parts.append(text == 0 ? "srp".charAt(random.nextInt(3)) : "srpaa".charAt(random.nextInt(5)));
            int day = random.nextInt(lastDay);
            parts.append(day / 10).append(day % 10);
            if (text == 1) parts.append(1 + random.nextInt(9));
        }
        return parts.toString();
    }

    private void retype(int text, int lastDay) {
        call(1, text);
        typeAll(text, parts(text, lastDay));
    }

    /** Texts that random bytes have broken would leave little to digest. */
    private void endWhole(int lastDay) {
        retype(0, lastDay);
        retype(1, lastDay);
        call(34);
    }

    private void typeAll(int text, String all) {
        for (int i = 0; i < all.length(); i++) call(0, text, all.charAt(i));
    }

    /** Draws what was seen from what came out, so that it is often so. */
    private void seeWhatHappened() {
        int couple = random.nextInt(8);
        int head = model.gets(couple, 0);
        call(20, couple, head < 0 ? 8 : head);
    }

    private int number(int which, int place) {
        int odd = random.nextInt(60);
        if (odd == 0) return new int[] {-1, -2, 256, 40, 61, Integer.MIN_VALUE, Integer.MAX_VALUE}[random.nextInt(7)];
        String name = NAMES[which];
        if (place == 0) {
            if (name.equals("weather") || name.equals("fault") || name.equals("type")) return random.nextInt(2);
            if (name.equals("rabbit") || name.equals("state") || name.equals("children") || name.equals("write")) {
                return random.nextInt(odd == 1 ? 41 : 12);
            }
            if (name.equals("chill")) return random.nextInt(18);
            if (name.equals("count")) return random.nextInt(10);
            if (name.equals("year")) return random.nextInt();
            if (name.equals("turn") || name.equals("back")) return random.nextInt(3);
            if (name.equals("sheet") || name.equals("lose") || name.equals("lay") || name.equals("get")
                    || name.equals("copy") || name.equals("read")) {
                return random.nextInt(odd == 1 ? 5 : 4);
            }
            return random.nextInt(9);
        }
        if (name.equals("type")) return "srpa0123456789;;x".charAt(random.nextInt(17));
        if (name.equals("weather")) return random.nextInt(odd == 1 ? 42 : 30);
        if (name.equals("rabbit") || name.equals("seen") || name.equals("state")) return random.nextInt(9);
        if (name.equals("keep")) return random.nextInt(4) - 1;
        if (name.equals("chill") && place == 1) return random.nextInt(random.nextInt(8) == 0 ? 11 : 5);
        if (name.equals("chill") && place == 2) return random.nextInt(8);
        if (name.equals("sheet") && place == 2) return random.nextInt(odd < 4 ? 63 : 12) - 1;
        if (name.equals("lay") && place == 3) return random.nextInt(odd < 9 ? Integer.MAX_VALUE : 9) - (odd & 1) * 40000;
        if ((name.equals("lay") || name.equals("get")) && place == 2) return random.nextInt(12) - 1;
        if (name.equals("copy") && place == 2) return random.nextInt(4);
        if (name.equals("copy")) return random.nextInt(8) - (odd == 1 ? 1 : 0);
        return random.nextInt(odd == 1 ? 4 : 3);
    }

    private void call(int which, int... given) {
        if (asked >= CALLS) return;
        asked++;
        int[] n = java.util.Arrays.copyOf(given, 5);
        long want = askModel(NAMES[which], n[0], n[1], n[2], n[3], n[4]);
        long got = askProgram(NAMES[which], n[0], n[1], n[2], n[3], n[4]);
        check.due("run " + run + ": " + NAMES[which] + java.util.Arrays.toString(given), want, got);
        if (asked >= CALLS || random.nextInt(4) > 0) return;
        asked++;
        check.due("run " + run + ": count(8) behind " + NAMES[which], model.count(8), program.count(8));
    }

    private long askModel(String name, int a, int b, int c, int d, int e) {
        Model x = model;
        return switch (name) {
            case "type" -> x.type(a, b);
            case "wipe" -> x.wipe(a);
            case "undo" -> x.undo(a);
            case "fault" -> x.fault(a);
            case "head" -> x.head(a, b);
            case "couple" -> x.couple(a, b);
            case "weather" -> x.weather(a, b);
            case "rabbit" -> x.rabbit(a, b);
            case "back" -> x.back(a);
            case "read" -> x.read(a);
            case "state" -> x.state(a, b);
            case "lifted" -> x.lifted(a, b);
            case "gets" -> x.gets(a, b);
            case "children" -> x.children(a);
            case "without" -> x.without();
            case "turn" -> x.turn(a);
            case "met" -> x.met();
            case "keep" -> x.keep(a, b);
            case "sow" -> x.sow(a, b);
            case "come" -> x.come(a, b);
            case "seen" -> x.seen(a, b);
            case "forget" -> x.forget();
            case "never" -> x.never();
            case "was" -> x.was(a, b);
            case "ask" -> x.ask(a);
            case "chill" -> x.chill(a, b, c, d);
            case "year" -> x.year(a, b);
            case "sheet" -> x.sheet(a, b, c);
            case "lose" -> x.lose(a);
            case "lay" -> x.lay(a, b, c, d);
            case "get" -> x.get(a, b, c);
            case "copy" -> x.copy(a, b, c, d, e);
            case "write" -> x.write(a, b);
            case "count" -> x.count(a);
            default -> x.digest();
        };
    }

    private long askProgram(String name, int a, int b, int c, int d, int e) {
        CabbageCradles x = program;
        return switch (name) {
            case "type" -> x.type(a, b);
            case "wipe" -> x.wipe(a);
            case "undo" -> x.undo(a);
            case "fault" -> x.fault(a);
            case "head" -> x.head(a, b);
            case "couple" -> x.couple(a, b);
            case "weather" -> x.weather(a, b);
            case "rabbit" -> x.rabbit(a, b);
            case "back" -> x.back(a);
            case "read" -> x.read(a);
            case "state" -> x.state(a, b);
            case "lifted" -> x.lifted(a, b);
            case "gets" -> x.gets(a, b);
            case "children" -> x.children(a);
            case "without" -> x.without();
            case "turn" -> x.turn(a);
            case "met" -> x.met();
            case "keep" -> x.keep(a, b);
            case "sow" -> x.sow(a, b);
            case "come" -> x.come(a, b);
            case "seen" -> x.seen(a, b);
            case "forget" -> x.forget();
            case "never" -> x.never();
            case "was" -> x.was(a, b);
            case "ask" -> x.ask(a);
            case "chill" -> x.chill(a, b, c, d);
            case "year" -> x.year(a, b);
            case "sheet" -> x.sheet(a, b, c);
            case "lose" -> x.lose(a);
            case "lay" -> x.lay(a, b, c, d);
            case "get" -> x.get(a, b, c);
            case "copy" -> x.copy(a, b, c, d, e);
            case "write" -> x.write(a, b);
            case "count" -> x.count(a);
            default -> x.digest();
        };
    }
}
