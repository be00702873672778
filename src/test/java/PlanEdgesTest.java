import java.math.BigInteger;

/** The boundary cases that the document names for plans, sights, chills and years: promises 18 to 28. */
public final class PlanEdgesTest {
    private static final int NONE = Fields.NONE, BAD = Fields.BAD, FULL = Fields.FULL;
    private static final int ALL_DUES = (1 << 30) - 1;
    private static final int[] SEEDS = {0, 1, -1, 7, 12345, 65535, 65536, -65536, 1103515245, Fields.LEAST, Fields.MOST};

    private final Check check = new Check();

    public static void main(String[] args) {
        PlanEdgesTest test = new PlanEdgesTest();
        test.meetingNobodyOrAll();
        test.meetingOnOneDay();
        test.keepingFewest();
        test.keepingLeastRow();
        test.keepingForAnother();
        test.sowingForEdges();
        test.sowingByWithout();
        test.comingFromEdges();
        test.comingAmongOthers();
        test.numbersOfPlans();
        test.numbersOfSights();
        test.whatNeverComesOutSo();
        test.rabbitsThatNeverWere();
        test.sortsThatWere();
        test.duesThatWere();
        test.asking();
        test.askingTheSame();
        test.chillsBySixteenths();
        test.chillsByDays();
        test.chillsInPlaceOfFrosts();
        test.chillsOfEachCouple();
        test.numbersOfChills();
        test.lotsOfSeeds();
        test.yearsOfAllHeads();
        test.check.end();
    }

    private void due(String sentence, long want, long got) {
        check.due(sentence, want, got);
    }

    private void meetingNobodyOrAll() {
        due("neither HEADS nor COUPLES", 0, new CabbageCradles().met());
        due("no COUPLES", 0, Fields.of(Fields.times(8, "r10"), "").met());
        due("no HEADS", 0, Fields.of("", Fields.times(8, "r109")).met());
        for (int h = 1; h <= 8; h++) {
            for (int c = 1; c <= 8; c++) {
                CabbageCradles x = Fields.of(Fields.times(h, "p10"), Fields.times(c, "a101"));
                due(h + " HEADS, " + c + " COUPLES: each a HEAD of its own", Math.min(h, c), x.met());
            }
        }
        // each couple takes what comes first, and the last goes without; if each waits, none does
        CabbageCradles x = Fields.of("p01;p02;p03;p04;p05;p06;p07;p08", "p012;p022;p032;p042;p052;p062;p072;p011");
        due("as it is", 128, x.without());
        due("as it might be", 8, x.met());
        x = Fields.of("r10;p12", "a109;r129");
        due("LIFTED otherwise", 2, x.without());
        due("if none was LIFTED otherwise", 2, x.met());
    }

    private void meetingOnOneDay() {
        for (int from = 0; from < 30; from++) {
            String couple = "a" + Fields.day(from) + 1;
            due("a savoy for 3", from < 10 || from > 12 ? 0 : 1, Fields.of("s10", couple).met());
            due("a red one for 5", from < 10 || from > 14 ? 0 : 1, Fields.of("r10", couple).met());
            due("a pointed one for 1", from != 10 ? 0 : 1, Fields.of("p10", couple).met());
        }
        for (int rabbit = 0; rabbit < 40; rabbit++) {
            CabbageCradles x = Fields.gnawed(Fields.of("r10", "r129"), 0, rabbit);
            due("RABBITS as they come: on " + rabbit, rabbit <= 12 ? 0 : 1, x.met());
        }
        due("by FROST a DAY later", 0, Fields.frozen(Fields.of("s10", "s101"), 9).met());
        due("by FROST a DAY longer", 1, Fields.frozen(Fields.of("s10", "s131"), 9).met());
        due("of what it WANTS", 0, Fields.of("s10;p10", "r109").met());
        due("two who want the one savoy", 2, Fields.of("s10;r10;r10", "s101;s101;r101").met());
        due("three who come when there is one", 2, Fields.of("p10;p20;p20", "p101;p101;p101;p201").met());
    }

    private void keeping(String sentence, CabbageCradles x, int couple, int... row) {
        due(sentence + ": how many", row.length, x.keep(couple, NONE));
        for (int i = 0; i < 2; i++) due(sentence + ": the " + i + "-th", i < row.length ? row[i] : NONE, x.keep(couple, i));
    }

    private void keepingNothing(String sentence, CabbageCradles x, int couple) {
        for (int i = NONE; i < 2; i++) due(sentence + ": NONE", NONE, x.keep(couple, i));
    }

    private void keepingFewest() {
        CabbageCradles x = Fields.of("r10", "r109");
        keeping("0 RABBITS, it gets one", x, 0);
        keepingNothing("0 RABBITS, it gets none", Fields.of("r10", "s109"), 0);
        x.rabbit(9, 0);
        keeping("1 is kept off", x, 0, 0);
        x.rabbit(10, 0);
        keeping("2 are kept off", x, 0, 0, 1);
        x.rabbit(11, 0);
        keeping("one behind the dawn needs not be", x, 0, 0, 1);
        x.rabbit(0, 0);
        keepingNothing("3 would have to be", x, 0);
        keeping("none has to be", Fields.gnawed(Fields.of("r10", "r109"), 0, 11, 39), 0);
        keeping("the first DAY and the HEAD's own", Fields.gnawed(Fields.of("r10", "r109"), 0, 0, 10), 0, 0, 1);
    }

    private void keepingLeastRow() {
        CabbageCradles x = Fields.gnawed(Fields.of("r10;r10", "r109"), 0, 5, 6);
        x.rabbit(7, 1);
        keeping("fewer are more than a lesser row", x, 0, 2);
        x.rabbit(8, 1);
        keeping("of like ones the least row", x, 0, 0, 1);
        x = Fields.of("r10;r10", "r109");
        for (int head : new int[] {1, 0, 0, 1}) x.rabbit(5, head);
        keeping("the least first, whatever is second", x, 0, 0, 3);
        x = Fields.of("r10;r10;r10", "r109");
        for (int head : new int[] {7, 2, 1, 0}) x.rabbit(5, head);
        keeping("of single ones the least", x, 0, 1);
        x = Fields.of("r10", "r109");
        for (int i = 0; i < 7; i++) x.rabbit(5, 1);
        x.rabbit(5, 0);
        keeping("the last of 8", x, 0, 7);
        for (int a = 0; a < 8; a++) {
            for (int b = a; b < 8; b++) keepingEachRow(a, b);
        }
        due("RABBITS stay as they are", 8, x.count(5));
        due("RABBITS stay as they are", 3, x.state(39, 0));
    }

    /** Of 8 rabbits a and b, which may be one, are at the only head. */
    private void keepingEachRow(int a, int b) {
        CabbageCradles x = Fields.of("r10", "r109");
        for (int i = 0; i < 8; i++) x.rabbit(5, i == a || i == b ? 0 : 1);
        if (a == b) keeping("that one alone", x, 0, a);
        else keeping("these two", x, 0, a, b);
    }

    private void keepingForAnother() {
        CabbageCradles x = Fields.gnawed(Fields.of("r10;p10", "a109;p101"), 0, 10);
        due("COUPLE 0 takes what COUPLE 1 wants", 2, x.without());
        keeping("what keeps off a RABBIT for the one serves the other", x, 1, 0);
        keeping("the other needs nothing", x, 0);
    }

    private void sowing(String sentence, CabbageCradles x, int head, int day, int without) {
        due(sentence + ": which", day, x.sow(head, 0));
        due(sentence + ": how many", without, x.sow(head, 1));
    }

    private void sowingForEdges() {
        for (int from = 0; from < 30; from++) {
            String couple = "a" + Fields.day(from) + 1;
            sowing("savoy FROM " + from, Fields.of("s15", couple), 0, Math.max(from - 2, 0), 0);
            sowing("red FROM " + from, Fields.of("r15", couple), 0, Math.max(from - 4, 0), 0);
            sowing("pointed FROM " + from, Fields.of("p15", couple), 0, from, 0);
        }
        sowing("no COUPLES", Fields.of("s15", ""), 0, 0, 0);
        sowing("nobody wants it", Fields.of("s15", "p151"), 0, 0, 1);
        sowing("all of 8, whatever the DAY", Fields.of("s15", Fields.times(8, "p151")), 0, 0, 8);
        sowing("of 8 one", Fields.of("s15", Fields.times(8, "s151")), 0, 13, 7);
        sowing("a RABBIT on DAY 0 is ahead of all", Fields.gnawed(Fields.of("p15", "p009"), 0, 0), 0, 0, 1);
        sowing("a RABBIT on DAY 1 leaves DAY 0", Fields.gnawed(Fields.of("p15", "p009"), 0, 1), 0, 0, 0);
        sowing("a FROST on DAY 0 leaves DAY 0", Fields.frozen(Fields.of("p15", "p001"), 0), 0, 0, 0);
        sowing("and nothing behind", Fields.frozen(Fields.of("p15", "p011"), 0), 0, 0, 1);
        int[] six = {0, 1, 2, 3, 4, 5};
        sowing("the last DAYS by FROSTS", Fields.frozen(Fields.of("s15", "s299"), six), 0, 21, 0);
        sowing("a savoy holds out on DAY 0 alone", Fields.frozen(Fields.of("s15", "s013"), six), 0, 0, 0);
    }

    private void sowingByWithout() {
        CabbageCradles x = Fields.of("p10;p20", "a101;p109");
        sowing("by 9 DAYS both are met, the least is 10", x, 1, 10, 0);
        sowing("by 9 DAYS one is met, the least is 10", x, 0, 10, 1);
        due("its own DAY stays", 20, x.head(1, 1));
        due("what is stays", 2, x.without());
        x = Fields.of("p05;p15", "p151;p051");
        sowing("its own DAY is the best", x, 0, 5, 0);
        x = Fields.of(Fields.times(7, "p10") + ";p00", Fields.times(8, "p101"));
        sowing("the last of 8 HEADS", x, 7, 10, 0);
        sowing("the first of 8 HEADS", x, 0, 10, 1);
        // a pointed head of day 30 would leave the red one to couple 0, and be there for couple 1
        sowing("no DAY 30 to sow for", Fields.of("p00;r29", "a291;p299"), 0, 0, 1);
    }

    private void coming(String sentence, CabbageCradles x, int couple, int from, int day) {
        due(sentence + ": which", from, x.come(couple, 0));
        due(sentence + ": on which DAY", day, x.come(couple, 1));
    }

    private void comingFromEdges() {
        for (int ripe = 0; ripe < 30; ripe++) {
            for (int stay : new int[] {1, 2, 9}) {
                CabbageCradles x = Fields.of("p" + Fields.day(ripe), "p15" + stay);
                coming("RIPE on " + ripe + ", comes on " + stay, x, 0, Math.max(ripe - stay + 1, 0), ripe);
            }
        }
        coming("no HEADS", Fields.of("", "a009"), 0, NONE, NONE);
        coming("FROM 30 there is nobody", Fields.frozen(Fields.of("s29", "s291"), 0), 0, NONE, NONE);
        coming("FROM 29 to DAY 30", Fields.frozen(Fields.of("s29", "s002"), 0), 0, 29, 30);
        coming("FROM 22 to DAY 30", Fields.frozen(Fields.of("s29", "s009"), 0), 0, 22, 30);
        int[] six = {0, 1, 2, 3, 4, 5};
        coming("FROM 29 to DAY 35", Fields.frozen(Fields.of("s29", "s007"), six), 0, 29, 35);
        coming("DAY 35 is one too many", Fields.frozen(Fields.of("s29", "s006"), six), 0, NONE, NONE);
        coming("LOST ahead of it", Fields.gnawed(Fields.of("r10", "r109"), 0, 10), 0, NONE, NONE);
        coming("LOST on the next DAY", Fields.gnawed(Fields.of("r10", "r201"), 0, 11), 0, 10, 10);
    }

    private void comingAmongOthers() {
        CabbageCradles x = Fields.of("r10", "r101;r201");
        coming("who is ahead by number has it", x, 1, NONE, NONE);
        coming("its own DAY", x, 0, 10, 10);
        x = Fields.of("r10", "r201;r101");
        coming("ahead by number", x, 0, 10, 10);
        x = Fields.of("r10", "r121;r201");
        coming("sooner than the other", x, 1, 10, 10);
        x = Fields.of("p03;p05", "p209");
        coming("soonest, then the least FROM", x, 0, 0, 3);
        x = Fields.of("p12;p20", "p299");
        coming("of like ones the least", x, 0, 4, 12);
        due("its own DAY stays", 29, x.couple(0, 1));
        due("what is stays", 1, x.without());
        x = Fields.of(Fields.times(8, "p10"), Fields.times(8, "p201"));
        coming("the last of 8 COUPLES", x, 7, 10, 10);
    }

    private void numbersOfPlans() {
        CabbageCradles x = Fields.of("r10;r11", "r101;r111");
        for (int off : new int[] {-1, 2, 8, Fields.LEAST, Fields.MOST}) {
            due("no COUPLE " + off, BAD, x.keep(off, 0));
            due("no COUPLE " + off, BAD, x.come(off, 0));
            due("no HEAD " + off, BAD, x.sow(off, 0));
            due("no HEAD " + off, BAD, x.was(off, 0));
            due("no HEAD " + off, BAD, x.ask(off));
            due("no what " + off, BAD, x.come(0, off));
            due("no what " + off, BAD, x.sow(0, off));
            due("no what " + off, BAD, x.was(0, off));
            due("no what " + off, BAD, x.year(0, off));
        }
        for (int off : new int[] {-2, 2, Fields.LEAST, Fields.MOST}) due("no i " + off, BAD, x.keep(0, off));
        due("the least i", 0, x.keep(1, NONE));
        due("the greatest i", NONE, x.keep(1, 1));
    }

    private void numbersOfSights() {
        for (int couple = 0; couple < 8; couple++) {
            for (int head = 0; head <= 8; head++) {
                due("a COUPLE (0 to 7) got a HEAD (0 to 7; 8)", 1, new CabbageCradles().seen(couple, head));
            }
        }
        CabbageCradles x = new CabbageCradles();
        due("nothing to forget", 0, x.forget());
        for (int off : new int[] {-1, 8, Fields.LEAST, Fields.MOST}) due("no COUPLE " + off, BAD, x.seen(off, 0));
        for (int off : new int[] {-1, 9, Fields.LEAST, Fields.MOST}) due("no HEAD " + off, BAD, x.seen(0, off));
        due("BAD changes nothing", 0, x.count(7));
        for (int n = 1; n <= 8; n++) due("8 at most, alike or not", n, x.seen(7, 8));
        due("a ninth is FULL", FULL, x.seen(0, 0));
        due("BAD is told ahead of FULL", BAD, x.seen(8, 0));
        due("BAD is told ahead of FULL", BAD, x.seen(0, 9));
        due("FULL changes nothing", 8, x.count(7));
        due("all are forgotten", 8, x.forget());
        due("none is left", 0, x.forget());
        for (int n = 1; n <= 8; n++) due("all of the room is back", n, x.seen(0, 0));
    }

    private static CabbageCradles seeing(CabbageCradles x, int... sights) {
        for (int i = 0; i + 1 < sights.length; i += 2) x.seen(sights[i], sights[i + 1]);
        return x;
    }

    private void whatNeverComesOutSo() {
        String heads = "r10;r10";
        String couples = "r101;r101;r101";
        due("none, which a savoy would undo", 6, seeing(Fields.of(heads, couples + ";s101"), 3, 8).was(0, 0));
        due("HEAD 1 to COUPLE 1", 2, seeing(Fields.of(heads, couples), 1, 1).was(0, 0));
        due("8: none", 7, seeing(Fields.of(heads, couples), 2, 8).was(0, 0));
        due("none, but it got one", 0, seeing(Fields.of(heads, couples), 0, 8).was(0, 0));
        due("a HEAD that there is not", 0, seeing(Fields.of(heads, couples), 2, 2).was(0, 0));
        due("a HEAD that there is not", 0, seeing(Fields.of(heads, couples), 2, 7).was(0, 1));
        due("a COUPLE that there is not, a HEAD", 0, seeing(Fields.of(heads, couples), 3, 0).was(0, 0));
        due("a COUPLE that there is not, none", 0, seeing(Fields.of(heads, couples), 3, 8).was(0, 0));
        due("a COUPLE that there is not, none", 0, seeing(Fields.of(heads, couples), 7, 8).was(0, 1));
        due("one that is so, one that is not", 0, seeing(Fields.of(heads, couples), 2, 8, 7, 8).was(0, 0));
        due("one that is not so, one that is", 0, seeing(Fields.of(heads, couples), 7, 8, 2, 8).was(0, 0));
        due("two of one COUPLE", 0, seeing(Fields.of(heads, couples), 0, 0, 0, 8).was(0, 0));
        due("the same twice", 2, seeing(Fields.of(heads, couples), 0, 0, 0, 0).was(0, 0));
        CabbageCradles x = Fields.of(Fields.times(8, "r10"), Fields.times(8, "r101"));
        for (int c = 0; c < 8; c++) x.seen(c, c);
        due("all of 8", 2, x.was(7, 0));
        for (int couple = 0; couple < 8; couple++) {
            for (int head = 0; head < 8; head++) oneCoupleGetsOneHead(couple, head);
        }
    }

    /** All heads are ripe on days of their own, and but for one the couples want what there is not. */
    private void oneCoupleGetsOneHead(int couple, int head) {
        String couples = "";
        for (int c = 0; c < 8; c++) couples += (c == 0 ? "" : ";") + (c == couple ? "p0" + head + 1 : "s001");
        CabbageCradles x = Fields.of("p00;p01;p02;p03;p04;p05;p06;p07", couples);
        for (int c = 0; c < 8; c++) {
            for (int h = 0; h <= 8; h++) {
                x.forget();
                x.seen(c, h);
                boolean so = c == couple ? h == head : h == 8;
                due("COUPLE " + c + " got " + h, so ? 1 << head : 0, x.was(head, 1) & 1 << head);
            }
        }
    }

    private void rabbitsThatNeverWere() {
        due("no RABBITS, nothing SEEN", 0, Fields.of("r10", "r101").never());
        CabbageCradles x = Fields.of("r10;r10", "r101;r101");
        for (int i = 0; i < 8; i++) x.rabbit(39, 7);
        due("8 RABBITS, nothing SEEN", 255, x.never());
        x.seen(0, 0);
        due("any of them, as it is so anyway", 255, x.never());
        x.seen(0, 8);
        due("none of them", 0, x.never());
        x = Fields.gnawed(Fields.of("r10", "r101"), 0, 5);
        x.seen(0, 0);
        due("had it not been", 1, x.never());
        for (int i = 0; i < 8; i++) due("the " + i + "-th of 8", 1 << i, theOneThatTook(i).never());
        x.rabbit(20, 0);
        due("not the one behind it", 1, x.never());
        x.rabbit(10, 0);
        due("neither of two alone", 0, x.never());
        x.forget();
        x.seen(0, 8);
        due("each of three, as two are left", 7, x.never());
        due("RABBITS stay", 3, x.count(5));
        x = seeing(Fields.of("r10", ""), 0, 8);
        x.rabbit(0, 0);
        due("a COUPLE that there is not: never", 0, x.never());
    }

    private static CabbageCradles theOneThatTook(int i) {
        CabbageCradles x = seeing(Fields.of("r10;r10", "r101"), 0, 0);
        for (int k = 0; k < 8; k++) x.rabbit(5, k == i ? 0 : 1);
        return x;
    }

    private void sortsThatWere() {
        due("nothing SEEN", 7, Fields.of("r10", "").was(0, 0));
        due("s alone", 1, seeing(Fields.of("p10", "s101"), 0, 0).was(0, 0));
        due("r alone", 2, seeing(Fields.of("s10", "r101"), 0, 0).was(0, 0));
        due("p alone", 4, seeing(Fields.of("r10", "p101"), 0, 0).was(0, 0));
        due("RIPE for 1 DAY", 7, seeing(Fields.of("r10", "a101"), 0, 0).was(0, 0));
        due("for 3", 3, seeing(Fields.of("p10", "a121"), 0, 0).was(0, 0));
        due("for 5", 2, seeing(Fields.of("p10", "a131"), 0, 0).was(0, 0));
        due("for 5 and no more", 0, seeing(Fields.of("p10", "a151"), 0, 0).was(0, 0));
        due("by FROST a savoy is late", 2, seeing(Fields.frozen(Fields.of("p10", "a101"), 9), 0, 0).was(0, 0));
        CabbageCradles x = seeing(Fields.of("p10", "a151"), 0, 8);
        due("none", 7, x.was(0, 0));
        due("its sort stays", 2, x.head(0, 0));
    }

    private void duesThatWere() {
        due("nothing SEEN", ALL_DUES, Fields.of("r10", "").was(0, 1));
        for (int day = 0; day < 30; day++) {
            String couple = "a" + Fields.day(day) + 1;
            due("on DAY " + day, 1 << day, seeing(Fields.of("p15", couple), 0, 0).was(0, 1));
            due("on all others", ALL_DUES & ~(1 << day), seeing(Fields.of("p15", couple), 0, 8).was(0, 1));
            int span = 0;
            for (int due = Math.max(day - 4, 0); due <= day; due++) span |= 1 << due;
            due("on one of 5", span, seeing(Fields.of("r15", couple), 0, 0).was(0, 1));
        }
        CabbageCradles x = seeing(Fields.frozen(Fields.of("s15", "s101"), 3), 0, 0);
        due("by FROST a DAY earlier", 1 << 7 | 1 << 8 | 1 << 9, x.was(0, 1));
        due("its DAY stays", 15, x.head(0, 1));
    }

    private void asking() {
        due("no COUPLES", NONE, Fields.of("p10", "").ask(0));
        due("one COUPLE", 0, Fields.of("p10", "p109").ask(0));
        due("8 COUPLES that never differ", 0, Fields.of("p10", Fields.times(8, "r109")).ask(0));
        due("the last of 8", 7, Fields.of("p10", Fields.times(7, "r109") + ";p109").ask(0));
        due("of like ones the least", 1, Fields.of("p10", "p108;p009;p109;p209").ask(0));
        due("one DAY more makes it", 2, Fields.of("p10", "p007;p108;p209").ask(0));
        // couple 0: none by 29 days; couple 1: head 0 by 13, none by 17
        due("the greatest number counts", 1, Fields.of("r10", "r001;r119").ask(0));
        CabbageCradles x = Fields.of("p10", "p009;p109");
        due("before anything is SEEN", 0, x.ask(0));
        x.seen(0, 8);
        due("by those DAYS that are left", 1, x.ask(0));
        x.seen(1, 0);
        due("by all of them each gets the same", 0, x.ask(0));
        x.seen(1, 8);
        due("no DAY is left", 0, x.ask(0));
    }

    private void askingTheSame() {
        // couple 0: head 0 by 5 days, head 1 by 25; couple 1: head 0 by 8, head 1 by 5, none by 17
        CabbageCradles x = Fields.of("r00;r10", "a109;r109");
        due("HEADS are told apart, and none from them", 1, x.ask(0));
        x = Fields.of("s00;p29", "p291;s009");
        due("of the last HEAD", 0, x.ask(1));
        due("its DAY stays", 29, x.head(1, 1));
    }

    private void fraction(String sentence, CabbageCradles x, int c, int day, BigInteger above, BigInteger below) {
        BigInteger common = above.gcd(below);
        due(sentence + ": above", above.divide(common).longValueExact(), x.chill(c, day, 0, 0));
        due(sentence + ": below", below.divide(common).longValueExact(), x.chill(c, day, 0, 1));
    }

    private static BigInteger power(int base, int exponent) {
        return BigInteger.valueOf(base).pow(exponent);
    }

    private void chillsBySixteenths() {
        CabbageCradles x = Fields.of("p10", "p101");
        for (int c = 0; c <= 16; c++) {
            for (int day = 0; day < 10; day++) {
                fraction(c + " on DAYS 0 to " + day, x, c, day, power(16 - c, day + 1), power(16, day + 1));
            }
        }
        due("the greatest there is: above", 576650390625L, x.chill(1, 9, 0, 0));
        due("the greatest there is: below", 1099511627776L, x.chill(1, 9, 0, 1));
        due("0 by 1: above", 0, x.chill(16, 9, 0, 0));
        due("0 by 1: below", 1, x.chill(16, 9, 0, 1));
        due("1 by 1: above", 1, x.chill(0, 9, 0, 0));
        due("1 by 1: below", 1, x.chill(0, 9, 0, 1));
        x = Fields.of("s01", "s011");
        for (int c = 0; c <= 16; c++) {
            fraction("a savoy comes late by FROST " + c, x, c, 9, power(16 - c, 1), power(16, 1));
        }
    }

    private void chillsByDays() {
        for (int ripe = 0; ripe < 12; ripe++) {
            CabbageCradles x = Fields.of("p" + Fields.day(ripe), "p" + Fields.day(ripe) + 1);
            for (int day = 0; day < 10; day++) {
                int cold = Math.min(day + 1, ripe);
                fraction("RIPE on " + ripe + ", FROST to " + day, x, 3, day, power(13, cold), power(16, cold));
            }
        }
        // with frost on every day a savoy of day 29 is ripe on day 30 and so many more
        for (int day = 0; day < 10; day++) {
            for (int stay = 1; stay <= 9; stay++) {
                CabbageCradles x = Fields.of("s29", "s29" + stay);
                due("FROST on 0 to " + day + ", comes on " + stay, day + 1 < stay ? 1 : 0, x.chill(16, day, 0, 0));
                due("FROST on 0 to " + day + ", comes on " + stay, 1, x.chill(16, day, 0, 1));
            }
        }
        due("FROST on and on holds back a savoy of DAY 1", 1, Fields.of("s01", "s111").chill(16, 9, 0, 0));
        due("and no longer", 0, Fields.of("s01", "s101").chill(16, 9, 0, 0));
    }

    private void chillsInPlaceOfFrosts() {
        CabbageCradles x = Fields.frozen(Fields.of("p10", "p101"), 0, 5, 9);
        due("LOST by FROSTS", NONE, x.gets(0, 0));
        fraction("in place of FROSTS", x, 0, 0, power(1, 1), power(1, 1));
        fraction("in place of those behind, too", x, 8, 3, power(1, 1), power(16, 1));
        due("FROSTS stay", 3, x.count(4));
        due("LOST by FROSTS still", NONE, x.gets(0, 0));
        x.rabbit(10, 0);
        fraction("RABBITS come", x, 0, 0, power(0, 1), power(1, 1));
        x.back(2);
        fraction("and do not", x, 0, 0, power(1, 1), power(1, 1));
        Fields.row(x, 0, 0, 10, 0);
        x.read(0);
        fraction("RABBITS come from a SHEET", x, 0, 0, power(0, 1), power(1, 1));
        x.back(2);
        fraction("and do not", x, 0, 0, power(1, 1), power(1, 1));
        Fields.type(x, 0, ";");
        fraction("HEADS with a FAULT", x, 0, 0, power(0, 1), power(1, 1));
        x.undo(0);
        fraction("without it", x, 0, 0, power(1, 1), power(1, 1));
        x.wipe(0);
        fraction("no HEADS", x, 0, 0, power(0, 1), power(1, 1));
    }

    /** Each of eight heads is one couple's, and the later it is ripe the more frosts may take it. */
    private void chillsOfEachCouple() {
        String heads = "p00;p01;p02;p03;p04;p05;p06;p07";
        CabbageCradles x = Fields.of(heads, "p071;p061;p051;p041;p031;p021;p011;p001");
        for (int c = 0; c < 8; c++) {
            due("COUPLE " + c + " of 8: above", 1, x.chill(8, 9, c, 0));
            due("COUPLE " + c + " of 8: below", 1L << 7 - c, x.chill(8, 9, c, 1));
        }
    }

    private void numbersOfChills() {
        CabbageCradles x = Fields.of("p10", "p101;p101");
        for (int off : new int[] {-1, 17, Fields.LEAST, Fields.MOST}) {
            due("no sixteenths " + off, Fields.LONG_BAD, x.chill(off, 0, 0, 0));
        }
        for (int off : new int[] {-1, 10, Fields.LEAST, Fields.MOST}) {
            due("no DAY " + off, Fields.LONG_BAD, x.chill(0, off, 0, 0));
        }
        for (int off : new int[] {-1, 2, Fields.LEAST, Fields.MOST}) {
            due("no COUPLE " + off, Fields.LONG_BAD, x.chill(0, 0, off, 0));
            due("no what " + off, Fields.LONG_BAD, x.chill(0, 0, 0, off));
        }
        due("the last COUPLE", 0, x.chill(0, 0, 1, 0));
        due("as the least long", -9223372036854775806L, x.chill(0, 0, 2, 0));
    }

    private static int[] lots(int seed, int n) {
        int[] lots = new int[n];
        BigInteger wrap = BigInteger.ONE.shiftLeft(32);
        BigInteger now = BigInteger.valueOf(seed);
        for (int i = 0; i < n; i++) {
            now = now.multiply(BigInteger.valueOf(1103515245)).add(BigInteger.valueOf(12345)).mod(wrap);
            lots[i] = now.shiftRight(16).mod(BigInteger.valueOf(30)).intValueExact();
        }
        return lots;
    }

    /** Of eight heads one is pointed, and the one couple wants it on one day: so each lot can be told. */
    private void lotsOfSeeds() {
        for (int head = 0; head < 8; head++) {
            String heads = "r00;r00;r00;r00;r00;r00;r00;r00".substring(0, 4 * head) + "p00"
                + ";r00;r00;r00;r00;r00;r00;r00".substring(0, 28 - 4 * head);
            for (int day = 0; day < 30; day++) {
                CabbageCradles x = Fields.of(heads, "p" + Fields.day(day) + 1);
                for (int seed : SEEDS) {
                    boolean gets = lots(seed, 8)[head] == day;
                    due("LOT " + head + " by SEED " + seed + " is " + day, gets ? 1 : 0, x.year(seed, 0));
                    due("LOT " + head + " by SEED " + seed + " is " + day, gets ? 0 : 1, x.year(seed, 1));
                }
            }
        }
    }

    private void yearsOfAllHeads() {
        CabbageCradles x = new CabbageCradles();
        due("no HEADS, no COUPLES", 0, x.year(Fields.LEAST, 0));
        due("no HEADS, no COUPLES", 0, x.year(Fields.MOST, 1));
        due("no HEADS", 8, Fields.of("", Fields.times(8, "r109")).year(-1, 1));
        due("no COUPLES", 0, Fields.of(Fields.times(8, "r10"), "").year(-1, 0));
        int[] days = lots(0, 2);
        x = Fields.of("p29;p29", "p" + Fields.day(days[0]) + "1;p" + Fields.day(days[1]) + 1);
        due("one child each", 2, x.year(0, 0));
        Fields.wet(x, days[1]);
        due("on a WET DAY 2", 3, x.year(0, 0));
        due("nobody WITHOUT", 0, x.year(0, 1));
        Fields.gnawed(x, 1, days[1]);
        due("RABBITS come", 1, x.year(0, 0));
        due("one WITHOUT", 1, x.year(0, 1));
        due("its own DAY stays", 29, x.head(0, 1));
    }
}
