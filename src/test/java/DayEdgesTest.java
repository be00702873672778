/** The boundary cases that the document names for weather, rabbits and days: promises 8 to 17. */
public final class DayEdgesTest {
    private static final int NONE = Fields.NONE, BAD = Fields.BAD, NOT = Fields.NOT, FULL = Fields.FULL;
    private static final int[] FAR_OFF = {-1, Fields.LEAST, Fields.MOST};
    private static final String SORTS = "srp";
    private static final int[] SPAN = {3, 5, 1};

    private final Check check = new Check();

    public static void main(String[] args) {
        DayEdgesTest test = new DayEdgesTest();
        test.daysOfWeather();
        test.sixOfEachWeather();
        test.daysAndHeadsOfRabbits();
        test.eightRabbits();
        test.backTakesTheLast();
        test.everyHeadOnEveryDay();
        test.oneFrostOnEachDay();
        test.moreFrosts();
        test.rabbitOnEachDay();
        test.rabbitsAndLifting();
        test.rabbitsElsewhere();
        test.couplesOnEachDay();
        test.couplesByNumbers();
        test.wetDays();
        test.childrenBehindEachDay();
        test.goingWithout();
        test.turnsByDaysAndNumbers();
        test.turnsByTheOther();
        test.turnsOfEachPair();
        test.turnsOfEachThree();
        test.numbersOfQuestions();
        test.check.end();
    }

    private void due(String sentence, long want, long got) {
        check.due(sentence, want, got);
    }

    private void daysOfWeather() {
        for (int day = 0; day < 40; day++) {
            CabbageCradles x = new CabbageCradles();
            due("FROSTS are of DAYS 0 to 29: " + day, day < 30 ? 1 : BAD, x.weather(0, day));
            due("WET DAYS are 0 to 39: " + day, 1, x.weather(1, day));
            due("both are counted together", day < 30 ? 2 : 1, x.count(4));
        }
        CabbageCradles x = new CabbageCradles();
        for (int what = 0; what < 2; what++) {
            due("no DAY 40", BAD, x.weather(what, 40));
            for (int day : FAR_OFF) due("no DAY " + day, BAD, x.weather(what, day));
        }
        for (int what : new int[] {-1, 2, Fields.LEAST, Fields.MOST}) due("no what " + what, BAD, x.weather(what, 0));
        due("BAD changes nothing", 0, x.count(4));
    }

    private void sixOfEachWeather() {
        for (int what = 0; what < 2; what++) {
            CabbageCradles x = new CabbageCradles();
            for (int n = 1; n <= 6; n++) due("6 at most, alike or not", n, x.weather(what, n / 2));
            due("a seventh is FULL", FULL, x.weather(what, 0));
            due("BAD is told ahead of FULL", BAD, x.weather(what, 40));
            due("BAD is told ahead of FULL", BAD, x.weather(what, -1));
            due("FULL changes nothing", 6, x.count(4));
            due("the other kind has its own room", 1, x.weather(1 - what, 0));
            due("one back", 5, x.back(what));
            due("there is room for one", 6, x.weather(what, 29));
            due("and no more", FULL, x.weather(what, 29));
        }
    }

    private void daysAndHeadsOfRabbits() {
        for (int day = 0; day < 40; day++) {
            CabbageCradles x = new CabbageCradles();
            for (int head = 0; head < 8; head++) due("on DAYS 0 to 39 at HEADS 0 to 7", head + 1, x.rabbit(day, head));
        }
        CabbageCradles x = new CabbageCradles();
        due("no DAY 40", BAD, x.rabbit(40, 0));
        due("no HEAD 8", BAD, x.rabbit(0, 8));
        for (int off : FAR_OFF) due("no DAY " + off, BAD, x.rabbit(off, 0));
        for (int off : FAR_OFF) due("no HEAD " + off, BAD, x.rabbit(0, off));
        due("BAD changes nothing", 0, x.count(5));
    }

    private void eightRabbits() {
        CabbageCradles x = new CabbageCradles();
        for (int n = 1; n <= 8; n++) due("8 at most, alike or not", n, x.rabbit(0, 0));
        due("a ninth is FULL", FULL, x.rabbit(39, 7));
        due("BAD is told ahead of FULL", BAD, x.rabbit(40, 7));
        due("BAD is told ahead of FULL", BAD, x.rabbit(39, 8));
        due("FULL changes nothing", 8, x.count(5));
        due("one back", 7, x.back(2));
        due("there is room for one", 8, x.rabbit(39, 7));
        due("and no more", FULL, x.rabbit(39, 7));
    }

    private void backTakesTheLast() {
        CabbageCradles x = new CabbageCradles();
        for (int what = 0; what < 3; what++) due("NOT: there is none", NOT, x.back(what));
        for (int what : new int[] {-1, 3, Fields.LEAST, Fields.MOST}) due("BAD is told ahead of NOT", BAD, x.back(what));
        x = Fields.frozen(Fields.of("s10;p10", ""), 3, 12);
        due("two there", 1, x.back(0));
        due("the last is undone, the first stays", 11, x.lifted(0, 0));
        due("one there", 0, x.back(0));
        due("none stays", 10, x.lifted(0, 0));
        due("none stays", 10, x.lifted(1, 0));
        x = Fields.wet(Fields.of("r04", "r041"), 4, 5);
        due("the last WET DAY is undone", 1, x.back(1));
        due("the first stays", 2, x.gets(0, 2));
        due("none stays", 0, x.back(1));
        due("none stays", 1, x.gets(0, 2));
        x = Fields.gnawed(Fields.gnawed(Fields.of("r04;r04", ""), 0, 1), 1, 1);
        due("the last RABBIT is undone", 1, x.back(2));
        due("the first stays", 3, x.state(39, 0));
        due("the last does not", 4, x.state(39, 1));
        due("none stays", 0, x.back(2));
        due("none stays", 4, x.state(39, 0));
        due("NOT: there is none", NOT, x.back(2));
    }

    private void everyHeadOnEveryDay() {
        for (int sort = 0; sort < 3; sort++) {
            for (int ripe = 0; ripe < 30; ripe++) {
                CabbageCradles x = Fields.of(SORTS.charAt(sort) + Fields.day(ripe), "");
                due("RIPE first", ripe, x.lifted(0, 0));
                for (int day = 0; day < 40; day++) {
                    int want = day < ripe ? 0 : day < ripe + SPAN[sort] ? 1 : 4;
                    due(SORTS.charAt(sort) + " ripe on " + ripe + ", behind DAY " + day, want, x.state(day, 0));
                }
            }
        }
    }

    /** On each day from 0 to 29, ahead of the day on which a head is to be ripe, on it and behind it. */
    private void oneFrostOnEachDay() {
        for (int ripe : new int[] {0, 1, 10, 28, 29}) {
            for (int frost = 0; frost < 30; frost++) {
                String on = Fields.day(ripe);
                CabbageCradles x = Fields.frozen(Fields.of("s" + on + ";r" + on + ";p" + on, ""), frost);
                boolean green = frost < ripe;
                due("a savoy one DAY later", green ? ripe + 1 : ripe, x.lifted(0, 0));
                due("a red one nothing", ripe, x.lifted(1, 0));
                due("a pointed one is LOST by it", green ? NONE : ripe, x.lifted(2, 0));
                for (int day = 0; day < 40; day++) {
                    int want = day < frost ? 0 : 3;
                    if (!green) want = day < ripe ? 0 : day == ripe ? 1 : 4;
                    due("p" + on + " by a FROST on " + frost + " behind " + day, want, x.state(day, 2));
                }
            }
        }
    }

    private int ripeBy(String head, int... frosts) {
        return Fields.frozen(Fields.of(head, ""), frosts).lifted(0, 0);
    }

    private void moreFrosts() {
        due("one or more on a DAY are one", 11, ripeBy("s10", 3, 3));
        due("one or more on a DAY are one", 11, ripeBy("s10", 9, 9, 9, 9, 9, 9));
        due("on DAYS apart they are two", 12, ripeBy("s10", 3, 9));
        due("in any order", 12, ripeBy("s10", 9, 3));
        due("green still on the DAY that was its own", 12, ripeBy("s10", 9, 10));
        due("in any order", 12, ripeBy("s10", 10, 9));
        due("RIPE on its own DAY, a FROST then is nothing", 10, ripeBy("s10", 10, 11));
        due("RIPE one DAY later, a FROST then is nothing", 11, ripeBy("s10", 0, 11));
        due("each of six finds it green", 16, ripeBy("s10", 10, 11, 12, 13, 14, 9));
        due("a gap ends it", 13, ripeBy("s10", 8, 9, 10, 13, 14, 15));
        due("six, the latest there can be", 35, ripeBy("s29", 24, 25, 26, 27, 28, 29));
        due("a FROST on 29 is behind nothing ripe on 29", 29, ripeBy("s29", 29));
        due("but finds one green that waits", 31, ripeBy("s29", 28, 29));
        due("a savoy of DAY 0 knows no FROST", 0, ripeBy("s00", 0, 1, 2, 3, 4, 5));
        due("a savoy of DAY 1 by all", 7, ripeBy("s01", 0, 1, 2, 3, 4, 5));
        due("a red one of DAY 29", 29, ripeBy("r29", 0, 5, 10, 15, 20, 28));
        due("a pointed one by the last that finds it green", NONE, ripeBy("p29", 28));
        CabbageCradles x = Fields.frozen(Fields.of("s29", ""), 24, 25, 26, 27, 28, 29);
        int[] want = {0, 1, 1, 1, 4, 4};
        for (int k = 0; k < 6; k++) due("behind DAY " + (34 + k), want[k], x.state(34 + k, 0));
        x = Fields.frozen(Fields.of("p10", ""), 9, 4, 7);
        due("green ahead of the first FROST", 0, x.state(3, 0));
        due("LOST by the first FROST", 3, x.state(4, 0));
        x = Fields.frozen(Fields.of("p10", ""), 12, 10);
        due("FROSTS behind it take nothing", 1, x.state(10, 0));
        due("it has BOLTED, not LOST", 4, x.state(12, 0));
    }

    private void rabbitOnEachDay() {
        for (int sort = 0; sort < 3; sort++) {
            for (int rabbit = 0; rabbit < 40; rabbit++) {
                CabbageCradles x = Fields.gnawed(Fields.of(SORTS.charAt(sort) + "10", ""), 0, rabbit);
                for (int day = 0; day < 40; day++) {
                    int want = day < 10 ? 0 : day < 10 + SPAN[sort] ? 1 : 4;
                    due("LOST whether green, RIPE or BOLTED", day < rabbit ? want : 3, x.state(day, 0));
                }
                due("RIPE first goes by FROSTS", 10, x.lifted(0, 0));
            }
        }
    }

    private void rabbitsAndLifting() {
        for (int rabbit = 0; rabbit < 40; rabbit++) {
            CabbageCradles x = Fields.gnawed(Fields.of("r10", "r129"), 0, rabbit);
            boolean lifted = rabbit > 12;
            due("RABBITS ahead of dawn", lifted ? 0 : NONE, x.gets(0, 0));
            due("LOST, if it is not LIFTED", lifted ? 2 : 3, x.state(39, 0));
            due("LIFTED behind its own DAY", lifted ? 2 : 3, x.state(12, 0));
            due("by whom", lifted ? 0 : NONE, x.lifted(0, 1));
            due("on which DAY", lifted ? 12 : NONE, x.lifted(0, 2));
        }
        CabbageCradles x = Fields.gnawed(Fields.of("r10;r11", "r109"), 0, 10);
        due("who comes to a LOST one waits for the next", 1, x.gets(0, 0));
        due("on its DAY", 11, x.gets(0, 1));
    }

    private void rabbitsElsewhere() {
        CabbageCradles x = Fields.of(Fields.times(7, "r10"), "");
        for (int k = 0; k < 8; k++) x.rabbit(5, 7);
        for (int h = 0; h < 7; h++) due("a RABBIT at a HEAD that there is not", 4, x.state(39, h));
        Fields.type(x, 0, ";r10");
        due("at the eighth, when there is one", 3, x.state(5, 7));
        x = Fields.gnawed(Fields.of("r10", ""), 0, 20, 5, 39, 0);
        due("the first of all counts, in any order", 3, x.state(0, 0));
        x = Fields.gnawed(Fields.of("r10", ""), 0, 39);
        due("a RABBIT on the last DAY", 4, x.state(38, 0));
        due("a RABBIT on the last DAY", 3, x.state(39, 0));
        x = Fields.frozen(Fields.gnawed(Fields.of("p10", ""), 0, 7), 4);
        due("LOST by FROST, then by a RABBIT", 3, x.state(4, 0));
        x = Fields.frozen(Fields.gnawed(Fields.of("p10", ""), 0, 4), 7);
        due("LOST by a RABBIT, then by FROST", 3, x.state(4, 0));
        due("by FROSTS it is never RIPE", NONE, x.lifted(0, 0));
    }

    private void couplesOnEachDay() {
        for (int from : new int[] {0, 1, 15, 28, 29}) {
            for (int stay = 1; stay <= 9; stay++) {
                for (int day = 0; day < 30; day++) {
                    CabbageCradles x = Fields.of("p" + Fields.day(day), "p" + Fields.day(from) + stay);
                    boolean comes = day >= from && day < from + stay;
                    due("FROM " + from + ", on " + stay + ": DAY " + day, comes ? day : NONE, x.gets(0, 1));
                }
            }
        }
        // the latest dawns that there can be, with a savoy of day 29 that six frosts hold back
        int[] six = {0, 1, 2, 3, 4, 5};
        due("on DAY 35", 35, Fields.frozen(Fields.of("s29", "s299"), six).gets(0, 1));
        due("on DAY 35, the seventh", 35, Fields.frozen(Fields.of("s29", "s297"), six).gets(0, 1));
        due("DAY 35 is one too many", NONE, Fields.frozen(Fields.of("s29", "s296"), six).gets(0, 1));
        due("the last of 9 DAYS", 35, Fields.frozen(Fields.of("s29", "s279"), six).gets(0, 1));
        due("9 DAYS are over", NONE, Fields.frozen(Fields.of("s29", "s269"), six).gets(0, 1));
        for (int from = 0; from < 30; from++) {
            int want = from < 10 || from > 14 ? NONE : from;
            due("a red one for 5", want, Fields.of("r10", "r" + Fields.day(from) + 1).gets(0, 1));
            want = from < 10 || from > 12 ? NONE : from;
            due("a savoy for 3", want, Fields.of("s10", "s" + Fields.day(from) + 1).gets(0, 1));
            want = from == 10 ? from : NONE;
            due("a pointed one for 1", want, Fields.of("p10", "a" + Fields.day(from) + 1).gets(0, 1));
        }
    }

    private void couplesByNumbers() {
        CabbageCradles x = Fields.of(Fields.times(8, "r10"), Fields.times(8, "a101"));
        for (int c = 0; c < 8; c++) due("COUPLES by numbers, the least HEAD", c, x.gets(c, 0));
        for (int h = 0; h < 8; h++) due("by which it is LIFTED", h, x.lifted(h, 1));
        due("nobody WITHOUT", 0, x.without());
        x = Fields.of("r10;r10", "r109");
        due("who has one lifts no more", NONE, x.lifted(1, 1));
        due("it has BOLTED", 4, x.state(15, 1));
        x = Fields.of("s10;r10;p10", "p101;r101;s101");
        for (int c = 0; c < 3; c++) due("of what it WANTS", 2 - c, x.gets(c, 0));
        x = Fields.of("p11;r10", "a109");
        due("the least that is RIPE, not the least", 1, x.gets(0, 0));
        x = Fields.of("r10", "r109;r109");
        due("the next finds nothing", NONE, x.gets(1, 0));
        due("on no DAY", NONE, x.gets(1, 1));
        due("no child", 0, x.gets(1, 2));
    }

    private void wetDays() {
        for (int wet = 0; wet < 40; wet++) {
            CabbageCradles x = Fields.wet(Fields.of("r10;r29;p00", "r109;r299;p001"), wet);
            due("1 child, on a WET DAY 2", wet == 10 ? 2 : 1, x.gets(0, 2));
            due("1 child, on a WET DAY 2", wet == 29 ? 2 : 1, x.gets(1, 2));
            due("1 child, on a WET DAY 2", wet == 0 ? 2 : 1, x.gets(2, 2));
            due("in all", wet == 0 || wet == 10 || wet == 29 ? 4 : 3, x.count(6));
        }
        CabbageCradles x = Fields.wet(Fields.of("r10", "r109"), 10, 10, 10, 10, 10, 10);
        due("wet six times is wet", 2, x.gets(0, 2));
        x = Fields.wet(Fields.of(Fields.times(8, "r10"), Fields.times(8, "r101")), 10);
        due("the most children", 16, x.children(39));
        x = Fields.wet(Fields.of("", "r109"), 10);
        due("none without a HEAD", 0, x.gets(0, 2));
    }

    private void childrenBehindEachDay() {
        CabbageCradles x = Fields.wet(Fields.of("p00;p07;p29", "p009;p079;p299;p001"), 7);
        for (int day = 0; day < 40; day++) {
            due("CHILDREN behind DAY " + day, day < 7 ? 1 : day < 29 ? 3 : 4, x.children(day));
        }
        due("no DAY 40", BAD, x.children(40));
        for (int day : FAR_OFF) due("no DAY " + day, BAD, x.children(day));
        due("nobody, nothing", 0, new CabbageCradles().children(0));
    }

    private void goingWithout() {
        for (int n = 0; n <= 8; n++) {
            for (int h = 0; h <= 8; h++) {
                CabbageCradles x = Fields.of(Fields.times(h, "r10"), Fields.times(n, "r101"));
                int bits = (1 << n) - 1 & ~((1 << h) - 1);
                due(n + " COUPLES, " + h + " HEADS", bits, x.without());
            }
        }
    }

    private void turnsByDaysAndNumbers() {
        due("no COUPLES", NONE, new CabbageCradles().turn(0));
        due("no COUPLES", NONE, new CabbageCradles().turn(1));
        due("one COUPLE", NONE, Fields.of("r10", "r101").turn(0));
        CabbageCradles x = Fields.of("p10;p05", "p101;p001;p092;p051;p042");
        due("the first by DAYS", 3, x.turn(0));
        due("on which DAY", 5, x.turn(1));
        x = Fields.of("p10;p10;p10", "p091;p101;p101;p092");
        due("then by numbers", 1, x.turn(0));
        due("on which DAY", 10, x.turn(1));
        x = Fields.of("p10", "p096;p101;p099");
        due("who has it comes FROM no later DAY", NONE, x.turn(0));
        x = Fields.of(Fields.times(8, "p29"), Fields.times(7, "p291") + ";p289");
        due("the last may be passed over", 0, x.turn(0));
        due("on the last DAY that can be", 29, x.turn(1));
        x = Fields.of("p01", "p011;p002");
        due("FROM DAY 0, passed over on DAY 1", 0, x.turn(0));
        due("on which DAY", 1, x.turn(1));
    }

    private void turnsByTheOther() {
        due("FROM one DAY earlier", 0, Fields.of("p10", "p101;p092").turn(0));
        due("FROM the same DAY", NONE, Fields.of("p10", "p101;p102").turn(0));
        due("FROM a later DAY", NONE, Fields.of("p10", "p101;p119").turn(0));
        due("comes on that DAY for the last time", 0, Fields.of("p10", "p101;p029").turn(0));
        due("came for the last time the DAY before", NONE, Fields.of("p10", "p101;p019").turn(0));
        due("WANTS that sort", 0, Fields.of("s10", "a101;s092").turn(0));
        due("WANTS any", 0, Fields.of("s10", "s101;a092").turn(0));
        due("WANTS another", NONE, Fields.of("s10", "a101;r092").turn(0));
        due("got one the DAY before", NONE, Fields.of("p09;p10", "p101;p092").turn(0));
        due("got one ahead of it on that DAY", NONE, Fields.of("p10;p10", "p092;p101").turn(0));
        due("got one ahead of it on that DAY, none is the first", NONE, Fields.of("p10;p10", "s001;p092;p101").turn(0));
        due("got one on the DAY of a third", NONE, Fields.of("p04;p04;p06", "p041;p061;p049").turn(0));
        due("gets one behind it on that DAY, as no third does", 1, Fields.of("p04;p06;p06", "p041;p061;p052").turn(0));
        due("gets one behind it on that DAY", 0, Fields.of("p10;p10", "p101;p092").turn(0));
        due("gets one on a DAY behind", 0, Fields.of("p10;p11", "p101;p093").turn(0));
        due("of a sort that it gets, not that it WANTS", NONE, Fields.of("r10", "a101;s092").turn(0));
    }

    /** Eight couples, of which those that are not told want what there is not. */
    private static CabbageCradles among(String heads, int a, String couple, int b, String other) {
        StringBuilder all = new StringBuilder();
        for (int c = 0; c < 8; c++) all.append(c == 0 ? "" : ";").append(c == a ? couple : c == b ? other : "s001");
        return Fields.of(heads, all.toString());
    }

    private void turnsOfEachPair() {
        for (int a = 0; a < 8; a++) {
            for (int b = 0; b < 8; b++) {
                if (a == b) continue;
                String pair = "COUPLE " + a + ", and " + b;
                int who = a < b ? a : NONE;
                CabbageCradles x = among("p10", a, "p101", b, "p092");
                due(pair + " FROM an earlier DAY", who, x.turn(0));
                due(pair + " FROM an earlier DAY", a < b ? 10 : NONE, x.turn(1));
                due(pair + " which WANTS any", who, among("p10", a, "p101", b, "a092").turn(0));
                due(pair + " which comes for the last time", who, among("p10", a, "p101", b, "p029").turn(0));
                due(pair + " which comes no more", NONE, among("p10", a, "p101", b, "p019").turn(0));
                due(pair + " which WANTS another", NONE, among("p10", a, "p101", b, "r092").turn(0));
                due(pair + " FROM the same DAY", NONE, among("p10", a, "p101", b, "p102").turn(0));
                due(pair + " FROM a later DAY", NONE, among("p10", a, "p101", b, "p112").turn(0));
                due(pair + " which has one", NONE, among("p09;p10", a, "p101", b, "p092").turn(0));
                due(pair + " which gets one, too", who, among("p10;p10", a, "p101", b, "p092").turn(0));
                due(pair + " which gets one later", who, among("p10;p11", a, "p101", b, "p093").turn(0));
            }
        }
    }

    /** Two are out of turn, as a third behind them is FROM an earlier day: the first by days, then by numbers. */
    private void turnsOfEachThree() {
        for (int a = 0; a < 7; a++) {
            for (int b = 0; b < 7; b++) {
                if (a == b) continue;
                CabbageCradles x = among("p05;p10", a, "p101", b, "p051");
                for (int k = 0; k < 4; k++) x.undo(1);
                Fields.type(x, 1, "p049");
                due("COUPLE " + a + " later than " + b, b, x.turn(0));
                due("COUPLE " + a + " later than " + b, 5, x.turn(1));
                x = among("p10;p10", a, "p101", b, "p101");
                for (int k = 0; k < 4; k++) x.undo(1);
                Fields.type(x, 1, "p049");
                due("COUPLES " + a + " and " + b + " on one DAY", Math.min(a, b), x.turn(0));
                due("COUPLES " + a + " and " + b + " on one DAY", 10, x.turn(1));
            }
        }
    }

    private void numbersOfQuestions() {
        CabbageCradles x = Fields.of("r10;r29", "r101;a299");
        for (int off : new int[] {-1, 2, 8, Fields.LEAST, Fields.MOST}) {
            due("no HEAD " + off, BAD, x.state(0, off));
            due("no HEAD " + off, BAD, x.lifted(off, 0));
            due("no COUPLE " + off, BAD, x.gets(off, 0));
            due("no what " + off, BAD, x.turn(off));
        }
        for (int off : new int[] {-1, 3, Fields.LEAST, Fields.MOST}) {
            due("no what " + off, BAD, x.lifted(0, off));
            due("no what " + off, BAD, x.gets(0, off));
        }
        for (int off : new int[] {-1, 40, Fields.LEAST, Fields.MOST}) due("no DAY " + off, BAD, x.state(off, 0));
        due("DAY 0, the last HEAD", 0, x.state(0, 1));
        due("DAY 39, the last HEAD", 2, x.state(39, 1));
        due("the last HEAD, the last what", 29, x.lifted(1, 2));
        due("the last COUPLE, the last what", 1, x.gets(1, 2));
    }
}
