/** Each promise by itself: what is ordinary, the edges that the document names, and wrong inputs. */
public final class PromisesTest {
    private static final int NONE = -1, BAD = -2, NOT = -3, FULL = -4;
    private static final int NULL = -11, INDEX = -12, CAST = -13, STORE = -14, SIZE = -15;
    private static final int LEAST = Integer.MIN_VALUE;
    private static final long LONG_BAD = Long.MIN_VALUE + 2;
    private static final int[] ODD = {-1, LEAST, Integer.MAX_VALUE};
    private static final int ALL_DUES = (1 << 30) - 1;

    private final Check check = new Check();
    private int promise = 0;
    private int asked = 0;

    public static void main(String[] args) {
        PromisesTest test = new PromisesTest();
        test.texts();
        test.weatherAndRabbits();
        test.days();
        test.plans();
        test.sights();
        test.chillsAndYears();
        test.sheets();
        test.counts();
        test.check.end();
    }

    private void due(long want, long got) {
        asked++;
        check.due("promise " + promise + ", question " + asked, want, got);
    }

    private void promise(int number) {
        promise = number;
        asked = 0;
    }

    private static CabbageCradles field(String heads, String couples) {
        CabbageCradles x = new CabbageCradles();
        typeAll(x, 0, heads);
        typeAll(x, 1, couples);
        return x;
    }

    private static void typeAll(CabbageCradles x, int text, String all) {
        for (int i = 0; i < all.length(); i++) x.type(text, all.charAt(i));
    }

    private int faultOf(int text, String all) {
        CabbageCradles x = new CabbageCradles();
        typeAll(x, text, all);
        return x.fault(text);
    }

    private void texts() {
        newObject();
        typing();
        wipingAndUndoing();
        faults();
        headsAndCouples();
    }

    private void newObject() {
        promise(1);
        CabbageCradles x = new CabbageCradles();
        for (int what = 0; what <= 8; what++) due(0, x.count(what));
        for (int s = 0; s < 4; s++) due(NULL, x.lose(s));
        due(NONE, x.fault(0));
        due(NONE, x.fault(1));
        due(0, x.without());
        due(0, x.never());
        due(0, x.forget());
    }

    private void typing() {
        promise(2);
        CabbageCradles x = new CabbageCradles();
        due(1, x.type(0, 0));
        due(2, x.type(0, 255));
        due(1, x.type(1, 255));
        due(BAD, x.type(0, -1));
        due(BAD, x.type(0, 256));
        due(BAD, x.type(2, 's'));
        due(BAD, x.type(-1, 's'));
        for (int n = 3; n <= 31; n++) due(n, x.type(0, 's'));
        due(FULL, x.type(0, 's'));
        due(BAD, x.type(0, 256));
        due(31, x.count(2));
        for (int n = 2; n <= 39; n++) due(n, x.type(1, ';'));
        due(FULL, x.type(1, ';'));
        due(39, x.count(3));
    }

    private void wipingAndUndoing() {
        promise(3);
        CabbageCradles x = field("s00;r01", "a001");
        for (int text : new int[] {-1, 2, LEAST, Integer.MAX_VALUE}) due(BAD, x.wipe(text));
        due(7, x.wipe(0));
        due(0, x.wipe(0));
        due(0, x.count(0));
        due(1, x.count(1));
        due(4, x.wipe(1));
        due(0, x.count(3));
        due(1, x.type(0, 'p'));

        promise(4);
        x = field("s00", "a001");
        for (int text : new int[] {-1, 2, LEAST, Integer.MAX_VALUE}) due(BAD, x.undo(text));
        due(2, x.undo(0));
        due(0, x.count(0));
        due(3, x.type(0, '7'));
        due(7, x.head(0, 1));
        due(3, x.undo(1));
        due(2, x.undo(1));
        due(1, x.undo(1));
        due(0, x.undo(1));
        due(NOT, x.undo(1));
        due(3, x.count(2));
    }

    private void faults() {
        promise(5);
        for (int text : new int[] {-1, 2, LEAST, Integer.MAX_VALUE}) due(BAD, new CabbageCradles().fault(text));
        String[] heads = {"", "s", "s0", "s00", "s29", "r30", "a00", "p0x", "p0/", "p0:", "p/0", "p39", "s00;",
            "s00;r", "s00;r2", "s00;r29", "s00x", "s00;;", ";", "s00;a", "s000", "S00", "s00;p17;r3"};
        int[] places = {NONE, 1, 2, NONE, NONE, 1, 0, 2, 2, 2, 1, 1, 4, 5, 6, NONE, 3, 4, 0, 4, 3, 0, 9};
        for (int i = 0; i < heads.length; i++) due(places[i], faultOf(0, heads[i]));
        String[] couples = {"", "a", "a2", "a29", "a299", "a290", "s001", "r001", "p001", "x001", "a301", "a0x1",
            "a00:", "a00/", "a001;", "a001;s", "a001;s0", "a001;s00", "a001;s009", "a0011", "a001;;", "a001;b"};
        places = new int[] {NONE, 1, 2, 3, NONE, 3, NONE, NONE, NONE, 0, 1, 2, 3, 3, 5, 6, 7, 8, NONE, 4, 5, 5};
        for (int i = 0; i < couples.length; i++) due(places[i], faultOf(1, couples[i]));
        due(NONE, faultOf(0, "s00;s00;s00;s00;s00;s00;s00;s00"));
        due(30, faultOf(0, "s00;s00;s00;s00;s00;s00;s00;s0;"));
        due(NONE, faultOf(1, "a009;a009;a009;a009;a009;a009;a009;a009"));
        due(38, faultOf(1, "a009;a009;a009;a009;a009;a009;a009;a000"));
    }

    private void headsAndCouples() {
        promise(6);
        CabbageCradles x = field("s04;r15;p29", "");
        for (int h = 0; h < 3; h++) due(h, x.head(h, 0));
        due(4, x.head(0, 1));
        due(15, x.head(1, 1));
        due(29, x.head(2, 1));
        for (int odd : new int[] {-1, 3, 8, LEAST, Integer.MAX_VALUE}) due(BAD, x.head(odd, 0));
        for (int odd : new int[] {-1, 2, LEAST, Integer.MAX_VALUE}) due(BAD, x.head(0, odd));
        x.type(0, ';');
        due(BAD, x.head(0, 0));
        x.undo(0);
        due(0, x.head(0, 0));

        promise(7);
        x = field("", "s041;r152;p298;a009");
        for (int c = 0; c < 4; c++) due(c, x.couple(c, 0));
        int[] froms = {4, 15, 29, 0};
        int[] stays = {1, 2, 8, 9};
        for (int c = 0; c < 4; c++) due(froms[c], x.couple(c, 1));
        for (int c = 0; c < 4; c++) due(stays[c], x.couple(c, 2));
        for (int odd : new int[] {-1, 4, 8, LEAST, Integer.MAX_VALUE}) due(BAD, x.couple(odd, 0));
        for (int odd : new int[] {-1, 3, LEAST, Integer.MAX_VALUE}) due(BAD, x.couple(0, odd));
        x.undo(1);
        due(BAD, x.couple(0, 0));
    }

    private void weatherAndRabbits() {
        promise(8);
        CabbageCradles x = new CabbageCradles();
        for (int odd : ODD) due(BAD, x.weather(odd, 0));
        for (int odd : ODD) due(BAD, x.weather(0, odd));
        for (int odd : ODD) due(BAD, x.weather(1, odd));
        due(BAD, x.weather(2, 0));
        due(BAD, x.weather(0, 30));
        due(BAD, x.weather(1, 40));
        for (int n = 1; n <= 6; n++) due(n, x.weather(0, n == 1 ? 0 : 29));
        due(FULL, x.weather(0, 0));
        due(BAD, x.weather(0, 30));
        for (int n = 1; n <= 6; n++) due(n, x.weather(1, n == 1 ? 0 : 39));
        due(FULL, x.weather(1, 0));
        due(12, x.count(4));

        promise(9);
        for (int odd : ODD) due(BAD, x.rabbit(odd, 0));
        for (int odd : ODD) due(BAD, x.rabbit(0, odd));
        due(BAD, x.rabbit(40, 0));
        due(BAD, x.rabbit(0, 8));
        for (int n = 1; n <= 8; n++) due(n, x.rabbit(n == 1 ? 0 : 39, 8 - n));
        due(FULL, x.rabbit(0, 0));
        due(BAD, x.rabbit(0, 8));
        due(8, x.count(5));

        promise(10);
        due(BAD, x.back(-1));
        due(BAD, x.back(3));
        for (int n = 5; n >= 0; n--) due(n, x.back(0));
        due(NOT, x.back(0));
        for (int n = 5; n >= 0; n--) due(n, x.back(1));
        due(NOT, x.back(1));
        for (int n = 7; n >= 0; n--) due(n, x.back(2));
        due(NOT, x.back(2));
        backTakesTheLast();
        readingRabbits();
    }

    private void backTakesTheLast() {
        CabbageCradles x = field("s05;r05", "s059;r059");
        x.weather(0, 2);
        x.weather(0, 3);
        due(7, x.lifted(0, 0));
        x.back(0);
        due(6, x.lifted(0, 0));
        x.weather(1, 5);
        x.weather(1, 6);
        due(4, x.children(39));
        x.back(1);
        due(3, x.children(39));
        x.rabbit(1, 0);
        x.rabbit(1, 1);
        due(3, x.without());
        x.back(2);
        due(1, x.without());
    }

    private void readingRabbits() {
        promise(11);
        CabbageCradles x = field("s05;s05;s05", "s059;s059;s059");
        due(BAD, x.read(-1));
        due(BAD, x.read(4));
        due(NULL, x.read(3));
        due(1, x.count(8));
        x.sheet(0, 0, 5);
        int[] items = {6, 1, 3, 2, 4};
        for (int i = 0; i < 5; i++) x.lay(0, 0, i, items[i]);
        due(2, x.read(0));
        due(2, x.count(5));
        due(3, x.state(3, 2));
        due(4, x.without());
        due(2, x.read(0));
        due(4, x.count(5));
        x.lay(0, 0, 3, 8);
        due(1, x.read(0));
        x.lay(0, 0, 0, 40);
        due(0, x.read(0));
        x.lay(0, 0, 0, -1);
        due(0, x.read(0));
        due(5, x.count(5));
        x.sheet(1, 2, 60);
        due(3, x.read(1));
        due(8, x.count(5));
        due(0, x.read(1));
        x.sheet(2, 1, 1);
        x.back(2);
        due(0, x.read(2));
        x.sheet(2, 1, 0);
        due(0, x.read(2));
        due(7, x.count(5));
        due(1, x.count(8));
    }

    private void days() {
        states();
        lifting();
        getting();
        childrenAndWithout();
        turns();
    }

    private void states() {
        promise(12);
        CabbageCradles x = field("s04;r04;p04", "");
        int[][] rows = {{0, 0, 0, 0, 1, 1, 1, 4, 4, 4}, {0, 0, 0, 0, 1, 1, 1, 1, 1, 4}, {0, 0, 0, 0, 1, 4, 4, 4, 4, 4}};
        for (int h = 0; h < 3; h++) {
            for (int d = 0; d < 10; d++) due(rows[h][d], x.state(d, h));
            due(4, x.state(39, h));
        }
        due(BAD, x.state(-1, 0));
        due(BAD, x.state(40, 0));
        due(BAD, x.state(0, 3));
        due(BAD, x.state(0, -1));
        // frosts ahead of the day, twice on one, and on a day that a frost has made one of waiting
        x.weather(0, 3);
        x.weather(0, 3);
        x.weather(0, 4);
        int[][] cold = {{0, 0, 0, 0, 0, 0, 1, 1, 1, 4}, {0, 0, 0, 0, 1, 1, 1, 1, 1, 4}, {0, 0, 0, 3, 3, 3, 3, 3, 3, 3}};
        for (int h = 0; h < 3; h++) {
            for (int d = 0; d < 10; d++) due(cold[h][d], x.state(d, h));
        }
        // a frost on the very day, or behind it, does nothing
        x = field("s04;r04;p04", "");
        x.weather(0, 4);
        x.weather(0, 5);
        for (int h = 0; h < 3; h++) due(1, x.state(4, h));
        due(1, x.state(6, 0));
        due(4, x.state(7, 0));
        rabbitsTakeWhatIsNotLifted();
    }

    private void rabbitsTakeWhatIsNotLifted() {
        CabbageCradles x = field("s04;s04;s04;s04", "s041");
        x.rabbit(2, 1);
        x.rabbit(6, 2);
        x.rabbit(20, 3);
        x.rabbit(5, 0);
        x.rabbit(0, 7);
        due(2, x.state(4, 0));
        due(2, x.state(39, 0));
        due(0, x.state(1, 1));
        due(3, x.state(2, 1));
        due(1, x.state(5, 2));
        due(3, x.state(6, 2));
        due(4, x.state(19, 3));
        due(3, x.state(20, 3));
        // a rabbit is there ahead of the couple
        x.rabbit(4, 0);
        due(3, x.state(4, 0));
    }

    private void lifting() {
        promise(13);
        CabbageCradles x = field("s04;p04;r20", "p041;s059");
        due(4, x.lifted(0, 0));
        due(1, x.lifted(0, 1));
        due(5, x.lifted(0, 2));
        due(0, x.lifted(1, 1));
        due(4, x.lifted(1, 2));
        due(20, x.lifted(2, 0));
        due(NONE, x.lifted(2, 1));
        due(NONE, x.lifted(2, 2));
        for (int odd : new int[] {-1, 3, LEAST, Integer.MAX_VALUE}) due(BAD, x.lifted(odd, 0));
        for (int odd : new int[] {-1, 3, LEAST, Integer.MAX_VALUE}) due(BAD, x.lifted(0, odd));
        x.rabbit(1, 0);
        due(4, x.lifted(0, 0));
        due(NONE, x.lifted(0, 1));
        x.weather(0, 0);
        due(5, x.lifted(0, 0));
        due(NONE, x.lifted(1, 0));
        due(NONE, x.lifted(1, 1));
        due(20, x.lifted(2, 0));
        // six frosts, each of them on a day of waiting
        x = field("s29", "");
        for (int d = 24; d < 30; d++) x.weather(0, d);
        due(35, x.lifted(0, 0));
        x = field("s00;p00;p01", "");
        x.weather(0, 0);
        due(0, x.lifted(0, 0));
        due(0, x.lifted(1, 0));
        due(NONE, x.lifted(2, 0));
    }

    private void getting() {
        promise(14);
        CabbageCradles x = field("p03;s02;s02;r10", "a022;s011;a029;r109;p011");
        int[] heads = {1, NONE, 2, 3, NONE};
        int[] days = {2, NONE, 2, 10, NONE};
        int[] children = {1, 0, 1, 2, 0};
        x.weather(1, 10);
        x.weather(1, 10);
        for (int c = 0; c < 5; c++) {
            due(heads[c], x.gets(c, 0));
            due(days[c], x.gets(c, 1));
            due(children[c], x.gets(c, 2));
        }
        for (int odd : new int[] {-1, 5, LEAST, Integer.MAX_VALUE}) due(BAD, x.gets(odd, 0));
        for (int odd : new int[] {-1, 3, LEAST, Integer.MAX_VALUE}) due(BAD, x.gets(0, odd));
        // the last day on which a couple comes, and the first on which it does not
        due(0, field("r05", "r023;r024").gets(1, 0));
        due(NONE, field("r05", "r023").gets(0, 0));
        due(9, field("r05", "r099").gets(0, 1));
        due(NONE, field("r05", "r109").gets(0, 1));
        due(29, field("r29", "r299").gets(0, 1));
    }

    private void childrenAndWithout() {
        promise(15);
        CabbageCradles x = field("s02;r04;p06", "a029;a029;a029;a029");
        x.weather(1, 4);
        int[] sums = {0, 0, 1, 1, 3, 3, 4, 4};
        for (int d = 0; d < sums.length; d++) due(sums[d], x.children(d));
        due(4, x.children(39));
        due(BAD, x.children(-1));
        due(BAD, x.children(40));

        promise(16);
        due(8, x.without());
        x.rabbit(4, 1);
        due(12, x.without());
        due(0, field("s02", "").without());
        due(255, field("", "a009;a009;a009;a009;a009;a009;a009;a009").without());
    }

    private void turns() {
        promise(17);
        CabbageCradles x = field("s04;s05", "s049;s039");
        due(0, x.turn(0));
        due(4, x.turn(1));
        due(BAD, x.turn(-1));
        due(BAD, x.turn(2));
        // the earlier one is ahead by its number, too
        due(NONE, field("s04;s05", "s039;s049").turn(0));
        due(NONE, field("s04;s04", "s039;s049").turn(1));
        // both from one day
        due(NONE, field("s04", "s049;s049").turn(0));
        // the other wants another sort
        due(NONE, field("s04", "s049;r039").turn(0));
        due(0, field("s04", "s049;a039").turn(0));
        // the other comes no more
        due(NONE, field("s04", "s049;s031").turn(0));
        due(0, field("s04", "s049;s032").turn(0));
        // the other has one already
        due(NONE, field("s03;s04", "s049;s039").turn(0));
        // the other gets one later on the same day
        due(0, field("s04;s04", "s049;s039").turn(0));
        // the first by days, then by numbers
        x = field("s04;s06;s04", "s069;s049;s039;s048");
        due(1, x.turn(0));
        due(4, x.turn(1));
        x = field("s04;s04", "s041;s041;s009");
        due(0, x.turn(0));
    }

    private void plans() {
        meeting();
        keeping();
        sowing();
        coming();
    }

    private void meeting() {
        promise(18);
        due(0, new CabbageCradles().met());
        due(0, field("s04", "").met());
        // each takes the least one, so one goes without who might have been met
        CabbageCradles x = field("s04;r04", "a049;s049");
        due(2, x.without());
        due(2, x.met());
        due(1, field("s04", "a049;s049").met());
        due(1, field("p04;p04", "p041;p051").met());
        // heads that go the round
        due(3, field("s04;r04;p04", "a041;a041;a041").met());
        due(2, field("s04;r20;p04", "a041;a041;a041").met());
        x = field("s04;s04", "s069;s049");
        due(2, x.met());
        x.rabbit(6, 0);
        due(2, x.met());
        x.rabbit(6, 1);
        due(1, x.met());
        x.rabbit(4, 0);
        x.rabbit(3, 1);
        due(0, x.met());
        x = field("p05;s05", "p009;s005");
        due(1, x.met());
        x.weather(0, 4);
        due(0, x.met());
        // one that is lifted otherwise may still be hers
        due(1, field("p04", "p049;p049").met());
        due(8, field("r00;r00;r00;r00;r00;r00;r00;r00", "r001;r011;r021;r031;r041;a001;a011;a021").met());
    }

    private void keeping() {
        promise(19);
        CabbageCradles x = field("s04;s04", "s049;s049");
        due(0, x.keep(0, NONE));
        due(NONE, x.keep(0, 0));
        due(NONE, x.keep(0, 1));
        x.rabbit(9, 0);
        x.rabbit(3, 0);
        x.rabbit(2, 1);
        due(1, x.keep(0, NONE));
        due(1, x.keep(0, 0));
        due(NONE, x.keep(0, 1));
        due(2, x.keep(1, NONE));
        due(1, x.keep(1, 0));
        due(2, x.keep(1, 1));
        x.rabbit(4, 1);
        due(NONE, x.keep(1, NONE));
        due(NONE, x.keep(1, 0));
        due(NONE, x.keep(1, 1));
        due(BAD, x.keep(0, -2));
        due(BAD, x.keep(0, 2));
        due(BAD, x.keep(2, 0));
        due(BAD, x.keep(-1, 0));
        due(NONE, field("p04", "s049").keep(0, NONE));
        keepingTheLeastRow();
    }

    private void keepingTheLeastRow() {
        // heads 0 and 1 have two rabbits each: 0 with 5, 1 with 2
        CabbageCradles x = field("s04;s04", "s049");
        x.rabbit(1, 0);
        x.rabbit(1, 1);
        x.rabbit(2, 1);
        x.rabbit(7, 0);
        x.rabbit(30, 5);
        x.rabbit(3, 0);
        due(2, x.keep(0, NONE));
        due(0, x.keep(0, 0));
        due(5, x.keep(0, 1));
        // of single ones the least
        x = field("s04;s04", "s049");
        x.rabbit(0, 7);
        x.rabbit(1, 1);
        x.rabbit(1, 0);
        due(1, x.keep(0, NONE));
        due(1, x.keep(0, 0));
        // the last of eight with the one ahead of it
        x = field("s04", "s049");
        for (int i = 0; i < 6; i++) x.rabbit(i, 3);
        x.rabbit(0, 0);
        x.rabbit(0, 0);
        due(6, x.keep(0, 0));
        due(7, x.keep(0, 1));
        for (int a = 0; a < 8; a++) {
            for (int b = a + 1; b < 8; b++) keepingOnePair(a, b);
        }
    }

    /** Rabbits a and b are at head 0, all others at head 1, where there are too many. */
    private void keepingOnePair(int a, int b) {
        CabbageCradles x = field("s04;s04", "s049");
        for (int i = 0; i < 8; i++) x.rabbit(2, i == a || i == b ? 0 : 1);
        due(2, x.keep(0, NONE));
        due(a, x.keep(0, 0));
        due(b, x.keep(0, 1));
        // a like pair at head 1, of the least and the greatest that are left
        int least = a > 0 ? 0 : b > 1 ? 1 : 2;
        int last = b < 7 ? 7 : a < 6 ? 6 : 5;
        x = field("s04;s04", "s049");
        for (int i = 0; i < 8; i++) x.rabbit(2, i == a || i == b ? 0 : i == least || i == last ? 1 : 5);
        due(Math.min(a, least), x.keep(0, 0));
        due(a < least ? b : last, x.keep(0, 1));
    }

    private void sowing() {
        promise(20);
        CabbageCradles x = field("p20;r10", "p052;p072");
        due(5, x.sow(0, 0));
        due(1, x.sow(0, 1));
        due(0, x.sow(1, 0));
        due(2, x.sow(1, 1));
        due(BAD, x.sow(2, 0));
        due(BAD, x.sow(-1, 0));
        due(BAD, x.sow(0, 2));
        due(BAD, x.sow(0, -1));
        x.rabbit(5, 0);
        due(0, x.sow(0, 0));
        due(2, x.sow(0, 1));
        due(0, field("s20", "").sow(0, 1));
        due(29, field("p00", "p299").sow(0, 0));
        x = field("s20", "s281");
        due(26, x.sow(0, 0));
        x.weather(0, 3);
        due(25, x.sow(0, 0));
        due(20, x.head(0, 1));
        // day 30 would do for both, but there is none to sow for
        x = field("p00;r29", "a291;p299");
        due(0, x.sow(0, 0));
        due(1, x.sow(0, 1));
    }

    private void coming() {
        promise(21);
        CabbageCradles x = field("s10;p20", "s201;p209;r009;p259");
        due(10, x.come(0, 0));
        due(10, x.come(0, 1));
        due(12, x.come(1, 0));
        due(20, x.come(1, 1));
        due(NONE, x.come(2, 0));
        due(NONE, x.come(2, 1));
        due(NONE, x.come(3, 0));
        due(BAD, x.come(4, 0));
        due(BAD, x.come(-1, 0));
        due(BAD, x.come(0, 2));
        due(BAD, x.come(0, -1));
        due(0, field("p00", "p291").come(0, 0));
        x = field("s29", "s291");
        x.weather(0, 1);
        due(NONE, x.come(0, 0));
        due(29, field("p29", "p001").come(0, 0));
        // sooner counts for more than less to wait
        x = field("p05;p03", "p209");
        due(0, x.come(0, 0));
        due(3, x.come(0, 1));
        due(20, x.couple(0, 1));
    }

    private void sights() {
        seeing();
        neverBeen();
        whatItWas();
        asking();
    }

    private void seeing() {
        promise(22);
        CabbageCradles x = field("s04", "s049");
        due(BAD, x.seen(-1, 0));
        due(BAD, x.seen(8, 0));
        due(BAD, x.seen(0, -1));
        due(BAD, x.seen(0, 9));
        for (int n = 1; n <= 8; n++) due(n, x.seen(8 - n, n));
        due(FULL, x.seen(0, 0));
        due(BAD, x.seen(0, 9));
        due(8, x.count(7));

        promise(23);
        due(8, x.forget());
        due(0, x.forget());
        due(0, x.count(7));
        due(1, x.seen(0, 0));
        due(1, x.forget());
    }

    private void neverBeen() {
        promise(24);
        CabbageCradles x = field("s04;s04", "s049;s049");
        x.rabbit(3, 0);
        x.rabbit(4, 1);
        x.rabbit(9, 1);
        due(7, x.never());
        x.seen(0, 0);
        due(1, x.never());
        x.forget();
        x.seen(0, 1);
        due(2, x.never());
        x.seen(1, 8);
        due(2, x.never());
        x.seen(1, 0);
        due(0, x.never());
        x.forget();
        x.seen(0, 8);
        due(4, x.never());
        x.seen(2, 8);
        due(0, x.never());
        x.forget();
        x.rabbit(2, 0);
        x.seen(0, 0);
        due(0, x.never());
    }

    private void whatItWas() {
        promise(25);
        CabbageCradles x = field("s04;r04", "r069;a061");
        due(7, x.was(0, 0));
        due(ALL_DUES, x.was(0, 1));
        x.seen(1, 0);
        due(1, x.was(0, 0));
        // ripe for three days, one of them day 6
        due(1 << 4 | 1 << 5 | 1 << 6, x.was(0, 1));
        due(7, x.was(1, 0));
        x.forget();
        x.seen(0, 1);
        due(1 | 4, x.was(0, 0));
        due(2, x.was(1, 0));
        due(BAD, x.was(2, 0));
        due(BAD, x.was(-1, 0));
        due(BAD, x.was(0, 2));
        due(BAD, x.was(0, -1));
        x.seen(2, 8);
        due(0, x.was(0, 0));
        due(0, x.was(0, 1));
        x = field("p00", "p299");
        x.seen(0, 0);
        due(1 << 29, x.was(0, 1));
        due(0, x.head(0, 1));
    }

    private void asking() {
        promise(26);
        due(BAD, new CabbageCradles().ask(0));
        due(NONE, field("s04", "").ask(0));
        due(BAD, field("s04", "s049").ask(1));
        due(BAD, field("s04", "s049").ask(-1));
        // couple 0 gets it by 1 of 30 days, couple 1 by 8
        due(1, field("p04", "p041;p009").ask(0));
        due(0, field("p04", "p009;p009").ask(0));
        // couple 2 gets it by 9
        CabbageCradles x = field("p04", "p041;p009;p209");
        due(2, x.ask(0));
        // what was seen leaves days 0 to 8 but 4, by which each gets always the same
        x.seen(1, 0);
        due(0, x.ask(0));
        x.seen(2, 0);
        due(0, x.ask(0));
        x.forget();
        x.seen(0, 8);
        due(2, x.ask(0));
        x.forget();
        // couple 0: head 0 by 5 days, head 1 by 25; couple 1: head 0 by 8, head 1 by 5, none by 17
        x = field("r00;r10", "a109;r109");
        due(1, x.ask(0));
        // only those with none are left to couple 1, and couple 0 has head 1 by all of them
        x.seen(1, 8);
        due(0, x.ask(0));
    }

    private void chillsAndYears() {
        chillingRefusals();
        chilling();
        years();
    }

    private void chillingRefusals() {
        promise(27);
        CabbageCradles x = field("p04", "p049");
        due(LONG_BAD, x.chill(-1, 0, 0, 0));
        due(LONG_BAD, x.chill(17, 0, 0, 0));
        due(LONG_BAD, x.chill(0, -1, 0, 0));
        due(LONG_BAD, x.chill(0, 10, 0, 0));
        due(LONG_BAD, x.chill(0, 0, 1, 0));
        due(LONG_BAD, x.chill(0, 0, -1, 0));
        due(LONG_BAD, x.chill(0, 0, 0, 2));
        due(LONG_BAD, x.chill(0, 0, 0, -1));
    }

    private void fraction(CabbageCradles x, int c, int day, int couple, long above, long below) {
        due(above, x.chill(c, day, couple, 0));
        due(below, x.chill(c, day, couple, 1));
    }

    private void chilling() {
        CabbageCradles x = field("p04;r00", "p049;r009;s009");
        x.weather(0, 0);
        fraction(x, 0, 9, 0, 1, 1);
        fraction(x, 16, 0, 0, 0, 1);
        fraction(x, 1, 0, 0, 15, 16);
        fraction(x, 1, 1, 0, 225, 256);
        // days 0 to 3 count for a head of day 4, those behind do not
        fraction(x, 1, 3, 0, 50625, 65536);
        fraction(x, 1, 9, 0, 50625, 65536);
        fraction(x, 8, 2, 0, 1, 8);
        fraction(x, 8, 3, 0, 1, 16);
        fraction(x, 12, 1, 0, 1, 16);
        fraction(x, 8, 9, 1, 1, 1);
        fraction(x, 5, 7, 2, 0, 1);
        // other heads, couples, rabbits: what was known of the chances is no more
        x = field("p04", "a049");
        fraction(x, 8, 3, 0, 1, 16);
        typeAll(x, 0, ";r04");
        fraction(x, 8, 3, 0, 1, 1);
        for (int i = 0; i < 4; i++) x.undo(0);
        fraction(x, 8, 3, 0, 1, 16);
        x.wipe(0);
        fraction(x, 8, 3, 0, 0, 1);
        x.wipe(1);
        typeAll(x, 1, "s009");
        x.wipe(0);
        typeAll(x, 0, "p00;r00");
        fraction(x, 1, 3, 0, 0, 1);
        x.wipe(1);
        typeAll(x, 1, "p009");
        fraction(x, 1, 3, 0, 1, 1);
        x.rabbit(0, 0);
        fraction(x, 1, 3, 0, 0, 1);
        x.back(2);
        fraction(x, 1, 3, 0, 1, 1);
        x.sheet(0, 0, 2);
        x.read(0);
        fraction(x, 1, 3, 0, 0, 1);
        // a savoy of day 1 waits as long as frost follows on frost
        x = field("s01", "s031");
        fraction(x, 8, 0, 0, 1, 1);
        x = field("s01", "s011");
        fraction(x, 8, 0, 0, 1, 2);
        x = field("s01", "s041");
        // ripe on 2, 3 or 4: a frost on day 0, and no more than two on days 1 to 3 in a row
        fraction(x, 8, 9, 0, 7, 16);
        fraction(x, 1, 9, 0, 4095, 65536);
    }

    private void years() {
        promise(28);
        CabbageCradles x = new CabbageCradles();
        due(BAD, x.year(0, -1));
        due(BAD, x.year(0, 2));
        due(0, x.year(0, 0));
        // by seed 0: 12345, whose upper bits are 0; then 3554416254, if it had no sign: 54236, by 30: 26 over
        x = field("p05;p05", "p001;p261");
        x.weather(1, 26);
        due(3, x.year(0, 0));
        due(0, x.year(0, 1));
        // by seed 1: 8, then 6
        due(2, x.year(1, 1));
        due(0, x.year(1, 0));
        due(5, x.head(0, 1));
        due(0, x.children(39));
        x.rabbit(0, 0);
        due(2, x.year(0, 0));
        due(1, x.year(0, 1));
    }

    private void sheets() {
        makingAndLosing();
        layingAndGetting();
        copying();
        writing();
    }

    private void makingAndLosing() {
        promise(29);
        CabbageCradles x = new CabbageCradles();
        due(BAD, x.sheet(-1, 0, 0));
        due(BAD, x.sheet(4, 0, 0));
        due(BAD, x.sheet(0, -1, 0));
        due(BAD, x.sheet(0, 3, 0));
        due(BAD, x.sheet(0, 0, 61));
        due(BAD, x.sheet(4, 0, -1));
        due(0, x.count(8));
        due(SIZE, x.sheet(0, 0, -1));
        due(5, x.count(8));
        due(NULL, x.lose(0));
        due(60, x.sheet(0, 2, 60));
        due(1, x.lay(0, 2, 59, 7));
        due(7, x.get(0, 2, 59));
        due(SIZE, x.sheet(0, 0, LEAST));
        due(7, x.get(0, 2, 59));
        due(60, x.sheet(0, 2, 60));
        due(0, x.get(0, 2, 59));
        due(0, x.sheet(3, 1, 0));

        promise(30);
        due(BAD, x.lose(-1));
        due(BAD, x.lose(4));
        due(60, x.lose(0));
        due(NULL, x.lose(0));
        due(1, x.count(8));
        due(0, x.lose(3));
        due(NULL, x.lose(3));
    }

    private void layingAndGetting() {
        promise(31);
        CabbageCradles x = new CabbageCradles();
        due(NULL, x.lay(0, 0, 0, 0));
        for (int form = 0; form < 3; form++) x.sheet(form, form, 4);
        for (int form = 0; form < 3; form++) due(1, x.lay(form, form, 3, 0x12348899));
        due(BAD, x.lay(-1, 0, 0, 0));
        due(BAD, x.lay(4, 0, 0, 0));
        due(BAD, x.lay(0, -1, 0, 0));
        due(BAD, x.lay(3, 3, 0, 0));
        due(CAST, x.lay(0, 1, 9, 0));
        due(3, x.count(8));
        due(INDEX, x.lay(0, 0, 4, 0));
        due(2, x.count(8));
        due(INDEX, x.lay(0, 0, -1, 0));
        due(INDEX, x.lay(0, 0, LEAST, 0));
        due(INDEX, x.lay(0, 0, Integer.MAX_VALUE, 0));

        promise(32);
        due((byte) 0x99, x.get(0, 0, 3));
        due((short) 0x8899, x.get(1, 1, 3));
        due(0x12348899, x.get(2, 2, 3));
        due(0, x.get(0, 0, 2));
        due(LEAST, x.get(-1, 0, 0));
        due(LEAST, x.get(4, 0, 0));
        due(LEAST, x.get(0, -1, 0));
        due(LEAST, x.get(0, 3, 0));
        due(2, x.count(8));
        due(LEAST, x.get(3, 0, 0));
        due(1, x.count(8));
        due(LEAST, x.get(0, 1, 9));
        due(3, x.count(8));
        due(LEAST, x.get(0, 0, 4));
        due(2, x.count(8));
        due(LEAST, x.get(0, 0, -1));
    }

    private void copying() {
        promise(33);
        CabbageCradles x = new CabbageCradles();
        x.sheet(0, 1, 6);
        x.sheet(1, 1, 3);
        x.sheet(2, 2, 6);
        for (int i = 0; i < 6; i++) x.lay(0, 1, i, i + 1);
        due(BAD, x.copy(-1, 0, 0, 0, 0));
        due(BAD, x.copy(0, 0, 4, 0, 0));
        due(BAD, x.copy(4, 0, 3, 0, 0));
        due(NULL, x.copy(3, 0, 0, 0, -1));
        due(NULL, x.copy(0, 0, 3, 0, -1));
        due(STORE, x.copy(0, 9, 2, 0, 0));
        due(4, x.count(8));
        int[][] off = {{-1, 0, 1}, {0, -1, 1}, {0, 0, -1}, {6, 0, 1}, {5, 0, 2}, {0, 3, 1}, {0, 1, 3}, {7, 0, 0},
            {0, 4, 0}, {Integer.MAX_VALUE, 0, 1}, {1, 0, Integer.MAX_VALUE}, {0, Integer.MAX_VALUE, 1}, {LEAST, 0, 1}};
        for (int[] o : off) due(INDEX, x.copy(0, o[0], 1, o[1], o[2]));
        due(2, x.count(8));
        for (int i = 0; i < 3; i++) due(0, x.get(1, 1, i));
        due(1, x.copy(0, 6, 1, 3, 0));
        due(1, x.copy(0, 3, 1, 0, 3));
        for (int i = 0; i < 3; i++) due(i + 4, x.get(1, 1, i));
        due(1, x.copy(0, 0, 0, 1, 5));
        for (int i = 0; i < 6; i++) due(Math.max(i, 1), x.get(0, 1, i));
        due(1, x.copy(0, 2, 0, 1, 4));
        int[] shifted = {1, 2, 3, 4, 5, 5};
        for (int i = 0; i < 6; i++) due(shifted[i], x.get(0, 1, i));
        due(1, x.copy(1, 0, 1, 0, 3));
        due(6, x.get(1, 1, 2));
    }

    private void writing() {
        promise(34);
        CabbageCradles x = field("s04;p05;r09", "s049");
        x.rabbit(1, 2);
        due(BAD, x.write(-1, 0));
        due(BAD, x.write(40, 0));
        due(BAD, x.write(0, -1));
        due(BAD, x.write(0, 4));
        due(NULL, x.write(0, 0));
        due(1, x.count(8));
        x.sheet(0, 0, 5);
        for (int i = 0; i < 5; i++) x.lay(0, 0, i, 9);
        due(3, x.write(5, 0));
        int[] states = {2, 1, 3, 9, 9};
        for (int i = 0; i < 5; i++) due(states[i], x.get(0, 0, i));
        x.sheet(1, 1, 2);
        due(2, x.write(6, 1));
        due(2, x.get(1, 1, 0));
        due(4, x.get(1, 1, 1));
        x.sheet(1, 2, 0);
        due(0, x.write(6, 1));
        x.wipe(0);
        due(0, x.write(6, 0));
        due(2, x.get(0, 0, 0));
    }

    private void counts() {
        promise(35);
        CabbageCradles x = field("s04;p05", "s049;a009;r001");
        x.weather(0, 20);
        x.weather(1, 4);
        x.weather(1, 20);
        x.rabbit(39, 7);
        x.seen(7, 7);
        x.seen(7, 8);
        x.lose(0);
        int[] wanted = {2, 3, 7, 14, 3, 1, 3, 2, 1};
        for (int what = 0; what <= 8; what++) due(wanted[what], x.count(what));
        for (int odd : new int[] {-1, 9, LEAST, Integer.MAX_VALUE}) due(BAD, x.count(odd));
        x.type(0, ';');
        due(0, x.count(0));
        due(8, x.count(2));

        promise(36);
        // 17, eight counts of 0, two faults of -1, then 0 0 -1 -1 0 0 0 0
        int[] rows = {0, 0, 0, 0, 0, 0, 0, 0, -1, -1, 0, 0, -1, -1, 0, 0, 0, 0};
        long h = 17;
        for (int row : rows) h = 31 * h + row;
        due(h, new CabbageCradles().digest());
        oneOfEach();
    }

    private void oneOfEach() {
        CabbageCradles x = field("p04", "p041");
        long[] rows = {1, 1, 3, 4, 0, 0, 1, 0, -1, -1,
            2, 4, 2, 2, 4, 0, 4, 4, 0, 7, ALL_DUES, 0,
            2, 4, 1, 0, 4, 1, 0, -1, 4, 4, 14641, 65536,
            1, 0, -1, -1, 1, 0, 0, 1};
        long h = 17;
        for (long row : rows) h = 31 * h + row;
        due(h, x.digest());
        due(h, x.digest());
        x.lose(0);
        x.sheet(1, 1, 1);
        due(h, x.digest());
        for (int d = 7; d < 12; d++) {
            String day = d < 10 ? "0" + d : "" + d;
            x = field("s04;p" + day + ";r06;s" + day, "s099;p" + day + "1;a073;a063;r109");
            x.weather(0, 3);
            x.weather(1, d);
            x.rabbit(d, 3);
            x.rabbit(6, 2);
            x.seen(0, 3);
            due(digestByCalls(x), x.digest());
            x = field("r" + day, "r" + day + "1");
            due(digestByCalls(x), x.digest());
        }
    }

    private long digestByCalls(CabbageCradles x) {
        long h = 17;
        for (int what = 0; what < 8; what++) h = 31 * h + x.count(what);
        for (int text = 0; text < 2; text++) h = 31 * h + x.fault(text);
        for (int i = 0; i < x.count(0); i++) {
            int[] rows = {x.head(i, 0), x.head(i, 1), x.state(9, i), x.state(39, i), x.lifted(i, 0), x.lifted(i, 1),
                x.lifted(i, 2), x.sow(i, 0), x.sow(i, 1), x.was(i, 0), x.was(i, 1), x.ask(i)};
            for (int row : rows) h = 31 * h + row;
        }
        for (int i = 0; i < x.count(1); i++) {
            long[] rows = {x.couple(i, 0), x.couple(i, 1), x.couple(i, 2), x.gets(i, 0), x.gets(i, 1), x.gets(i, 2),
                x.keep(i, NONE), x.keep(i, 0), x.come(i, 0), x.come(i, 1), x.chill(5, 7, i, 0), x.chill(5, 7, i, 1)};
            for (long row : rows) h = 31 * h + row;
        }
        int[] rows = {x.children(9), x.without(), x.turn(0), x.turn(1), x.met(), x.never(), x.year(7, 0), x.year(7, 1)};
        for (int row : rows) h = 31 * h + row;
        return h;
    }
}
