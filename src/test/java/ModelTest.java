import java.util.Random;

/** Runs of 512 calls, as many as an object is good for, drawn by a fixed seed, put to the program and the model. */
public final class ModelTest {
    private static final int RUNS = 300;
    /** Enough for both texts typed anew and a digest, with a look at the latest finding behind each call. */
    private static final int CALLS_TO_END = 230;
    private static final String[] NAMES = {"type", "wipe", "undo", "fault", "head", "couple", "weather", "rabbit",
        "back", "read", "state", "lifted", "gets", "children", "without", "turn", "met", "keep", "sow", "come",
        "seen", "forget", "never", "was", "ask", "chill", "year", "sheet", "lose", "lay", "get", "copy", "write",
        "count", "digest"};

    private final Random random;
    private final Check check;
    private final int run;
    private final Pair pair;

    private ModelTest(int run, Check check) {
        this.run = run;
        this.check = check;
        random = new Random(7919L * run + 13);
        pair = new Pair("run " + run, check);
    }

    public static void main(String[] args) {
        Check check = new Check();
        for (int run = 0; run < RUNS && check.isClean(); run++) new ModelTest(run, check).play();
        check.end();
    }

    private void play() {
        int lastDay = random.nextBoolean() ? 7 : 30;
        typeAll(0, Fields.drawn(random, 0, lastDay));
        typeAll(1, Fields.drawn(random, 1, lastDay));
        for (int i = random.nextInt(5); i > 0; i--) call(6, 0, random.nextInt(lastDay));
        for (int i = random.nextInt(4); i > 0; i--) call(6, 1, random.nextInt(lastDay));
        for (int i = random.nextInt(9); i > 0; i--) call(7, random.nextInt(lastDay), random.nextInt(8));
        for (int i = random.nextInt(3); i > 0; i--) seeWhatHappened();
        boolean endsWhole = run % 4 == 0;
        int most = endsWhole ? Pair.CALLS - CALLS_TO_END : Pair.CALLS;
        while (pair.asked() < most && check.isClean()) {
            int which = random.nextInt(100) < 3 ? random.nextInt(3) : 3 + random.nextInt(31);
            call(which, number(which, 0), number(which, 1), number(which, 2), number(which, 3), number(which, 4));
            if (random.nextInt(40) == 0) retype(random.nextInt(2), lastDay);
            if (random.nextInt(40) == 0) seeWhatHappened();
        }
        if (endsWhole) endWhole(lastDay);
    }

    private void retype(int text, int lastDay) {
        call(1, text);
        typeAll(text, Fields.drawn(random, text, lastDay));
    }

    /** Texts that random bytes have broken would leave little to digest. */
    private void endWhole(int lastDay) {
        retype(0, lastDay);
        retype(1, lastDay);
        call(34);
    }

    private void typeAll(int text, String all) {
        for (int i = 0; i < all.length(); i++) call(0, text, all.charAt(i));
    }

    /** Draws what was seen from what came out, so that it is often so. */
    private void seeWhatHappened() {
        int couple = random.nextInt(8);
        int head = (int) pair.call("gets", couple, 0);
        call(20, couple, head < 0 ? 8 : head);
    }

    private int number(int which, int place) {
        int odd = random.nextInt(60);
        if (odd == 0) return new int[] {-1, -2, 256, 40, 61, Integer.MIN_VALUE, Integer.MAX_VALUE}[random.nextInt(7)];
        String name = NAMES[which];
        if (place == 0) {
            if (name.equals("weather") || name.equals("fault") || name.equals("type")) return random.nextInt(2);
            if (name.equals("rabbit") || name.equals("state") || name.equals("children") || name.equals("write")) {
                return random.nextInt(odd == 1 ? 41 : 12);
            }
            if (name.equals("chill")) return random.nextInt(18);
            if (name.equals("count")) return random.nextInt(10);
            if (name.equals("year")) return random.nextInt();
            if (name.equals("turn") || name.equals("back")) return random.nextInt(3);
            if (name.equals("sheet") || name.equals("lose") || name.equals("lay") || name.equals("get")
                    || name.equals("copy") || name.equals("read")) {
                return random.nextInt(odd == 1 ? 5 : 4);
            }
            return random.nextInt(9);
        }
        if (name.equals("type")) return "srpa0123456789;;x".charAt(random.nextInt(17));
        if (name.equals("weather")) return random.nextInt(odd == 1 ? 42 : 30);
        if (name.equals("rabbit") || name.equals("seen") || name.equals("state")) return random.nextInt(9);
        if (name.equals("keep")) return random.nextInt(4) - 1;
        if (name.equals("chill") && place == 1) return random.nextInt(random.nextInt(8) == 0 ? 11 : 5);
        if (name.equals("chill") && place == 2) return random.nextInt(8);
        if (name.equals("sheet") && place == 2) return random.nextInt(odd < 4 ? 63 : 12) - 1;
        if (name.equals("lay") && place == 3) return random.nextInt(odd < 9 ? Integer.MAX_VALUE : 9) - (odd & 1) * 40000;
        if ((name.equals("lay") || name.equals("get")) && place == 2) return random.nextInt(12) - 1;
        if (name.equals("copy") && place == 2) return random.nextInt(4);
        if (name.equals("copy")) return random.nextInt(8) - (odd == 1 ? 1 : 0);
        return random.nextInt(odd == 1 ? 4 : 3);
    }

    private void call(int which, int... given) {
        pair.call(NAMES[which], given);
        if (random.nextInt(4) == 0) pair.call("count", 8);
    }
}
