import java.util.Random;

/** Many fields, drawn by a fixed seed: of each the program and the model are asked what comes of it, of some all plans. */
public final class ManyFieldsTest {
    private static final int FIELDS = 4000;
    /** How many fields go by for one of which all plans are asked. */
    private static final int PLANS_EACH = 16;

    private final Random random;
    private final Pair pair;
    private final int lastDay;

    private ManyFieldsTest(int field, Check check) {
        random = new Random(104729L * field + 7);
        pair = new Pair("field " + field, check);
        lastDay = new int[] {3, 6, 10, 30}[field % 4];
    }

    public static void main(String[] args) {
        Check check = new Check();
        for (int field = 0; field < FIELDS && check.isClean(); field++) {
            ManyFieldsTest test = new ManyFieldsTest(field, check);
            test.make();
            test.askDays();
            if (field / 4 % PLANS_EACH == 0) test.askPlans();
            check.holds("an object is used for at most 512 calls", test.pair.asked() < Pair.CALLS);
        }
        check.end();
    }

    private void make() {
        pair.type(0, Fields.drawn(random, 0, lastDay));
        pair.type(1, Fields.drawn(random, 1, lastDay));
        for (int i = random.nextInt(4); i > 0; i--) pair.call("weather", 0, random.nextInt(lastDay));
        for (int i = random.nextInt(4); i > 0; i--) pair.call("weather", 1, random.nextInt(lastDay));
        for (int i = random.nextInt(9); i > 0; i--) pair.call("rabbit", random.nextInt(lastDay + 5), random.nextInt(8));
        for (int i = random.nextInt(3); i > 0; i--) seeWhatHappened();
    }

    /** Draws what was seen from what came out, so that it is so. */
    private void seeWhatHappened() {
        int couple = random.nextInt(8);
        int head = (int) pair.call("gets", couple, 0);
        if (head >= Fields.NONE) pair.call("seen", couple, head == Fields.NONE ? 8 : head);
    }

    private void askDays() {
        for (int head = 0; head < 8; head++) {
            for (int what = 0; what < 3; what++) pair.call("lifted", head, what);
            for (int i = 0; i < 5; i++) pair.call("state", random.nextInt(lastDay + 8), head);
        }
        for (int couple = 0; couple < 8; couple++) {
            for (int what = 0; what < 3; what++) pair.call("gets", couple, what);
        }
        for (int i = 0; i < 5; i++) pair.call("children", random.nextInt(lastDay + 8));
        pair.call("without");
        pair.call("turn", 0);
        pair.call("turn", 1);
        pair.call("met");
        pair.call("never");
    }

    private void askPlans() {
        int seed = random.nextInt();
        for (int what = 0; what < 2; what++) {
            for (int head = 0; head < 8; head++) {
                pair.call("sow", head, what);
                pair.call("was", head, what);
            }
            for (int couple = 0; couple < 8; couple++) {
                pair.call("come", couple, what);
                pair.call("keep", couple, what);
                pair.call("chill", random.nextInt(17), random.nextInt(5), couple, what);
            }
            pair.call("year", seed, what);
        }
        for (int head = 0; head < 8; head++) pair.call("ask", head);
        for (int couple = 0; couple < 8; couple++) pair.call("keep", couple, Fields.NONE);
        pair.call("digest");
    }
}
