/** The boundary cases that the document names for texts: promises 1 to 7. */
public final class TextEdgesTest {
    private static final int NONE = Fields.NONE, BAD = Fields.BAD, NOT = Fields.NOT, FULL = Fields.FULL;
    private static final int[] NO_TEXT = {-1, 2, Fields.LEAST, Fields.MOST};
    private static final String[] PART = {"s29", "a299"};
    /** What may stand at each place of a part, and behind it. */
    private static final String[][] MAY = {
        {"srp", "012", "0123456789", ";"},
        {"srpa", "012", "0123456789", "123456789", ";"}};

    private final Check check = new Check();

    public static void main(String[] args) {
        TextEdgesTest test = new TextEdgesTest();
        test.aNewObject();
        for (int text = 0; text < 2; text++) {
            test.room(text);
            test.everyByteMayComeBehind(text);
            test.noByteBelowOrAbove(text);
            test.everyByteAtEveryPlace(text);
            test.everyBeginning(text);
            test.theFirstFaultStays(text);
            test.eightButNoNinth(text);
            test.wiping(text);
            test.undoing(text);
        }
        test.noSuchText();
        test.everyHead();
        test.everyCouple();
        test.numbersOfHeads();
        test.numbersOfCouples();
        test.faultyHeadsAreNone();
        test.faultyCouplesAreNone();
        test.check.end();
    }

    private void due(String sentence, long want, long got) {
        check.due(sentence, want, got);
    }

    private static CabbageCradles typed(int text, String all) {
        CabbageCradles x = new CabbageCradles();
        Fields.type(x, text, all);
        return x;
    }

    private static int faultOf(int text, String all) {
        return typed(text, all).fault(text);
    }

    private void aNewObject() {
        CabbageCradles x = new CabbageCradles();
        for (int what = 0; what <= 8; what++) due("new: count " + what, 0, x.count(what));
        for (int text = 0; text < 2; text++) {
            due("new: an empty text is well", NONE, x.fault(text));
            due("new: nothing to undo", NOT, x.undo(text));
            due("new: nothing to wipe", 0, x.wipe(text));
        }
        due("new: no HEADS", BAD, x.head(0, 0));
        due("new: no COUPLES", BAD, x.couple(0, 0));
        for (int what = 0; what < 3; what++) due("new: no weather, no rabbit", NOT, x.back(what));
        due("new: 0 before any FINDING", 0, x.count(8));
        for (int s = 0; s < 4; s++) due("new: all SHEETS are LOST", Fields.NULL, x.lose(s));
    }

    private void room(int text) {
        CabbageCradles x = new CabbageCradles();
        int room = Fields.ROOM[text];
        for (int n = 1; n <= room; n++) due("up to " + room + " bytes", n, x.type(text, 'x'));
        for (int k = 0; k < 3; k++) due("one byte more is FULL", FULL, x.type(text, 'x'));
        due("FULL changes nothing", room, x.count(2 + text));
        due("a full text leaves the other alone", 0, x.count(3 - text));
        due("a full text leaves the other room", 1, x.type(1 - text, 's'));
        due("undone, there is room for one", room - 1, x.undo(text));
        due("undone, there is room for one", room, x.type(text, 'x'));
        due("and no more", FULL, x.type(text, 'x'));
        due("BAD is told ahead of FULL", BAD, x.type(text, 256));
        due("BAD is told ahead of FULL", BAD, x.type(text, -1));
    }

    private void everyByteMayComeBehind(int text) {
        for (int b = 0; b < 256; b++) {
            CabbageCradles x = new CabbageCradles();
            due("a byte (0 to 255): " + b, 1, x.type(text, b));
            due("a byte behind another: " + b, 2, x.type(text, 255 - b));
        }
    }

    private void noByteBelowOrAbove(int text) {
        CabbageCradles x = typed(text, PART[text]);
        for (int b : new int[] {-1, 256, 's' + 256, 's' - 256, 's' + 65536, Fields.LEAST, Fields.MOST}) {
            due("no byte: " + b, BAD, x.type(text, b));
        }
        due("BAD changes nothing", PART[text].length(), x.count(2 + text));
        due("BAD changes nothing", NONE, x.fault(text));
    }

    private void noSuchText() {
        CabbageCradles x = Fields.of("s00", "a001");
        for (int text : NO_TEXT) {
            due("no text " + text, BAD, x.type(text, 's'));
            due("no text " + text, BAD, x.type(text, -1));
            due("no text " + text, BAD, x.wipe(text));
            due("no text " + text, BAD, x.undo(text));
            due("no text " + text, BAD, x.fault(text));
        }
        due("BAD changes nothing", 3, x.count(2));
        due("BAD changes nothing", 4, x.count(3));
        x = new CabbageCradles();
        for (int text : NO_TEXT) due("BAD is told ahead of NOT", BAD, x.undo(text));
    }

    /** Behind a right beginning in the first, second and last part. */
    private void everyByteAtEveryPlace(int text) {
        String[] may = MAY[text];
        for (int parts : new int[] {0, 1, 7}) {
            String ahead = parts == 0 ? "" : Fields.times(parts, PART[text]) + ";";
            for (int place = 0; place < may.length; place++) {
                String start = ahead + PART[text].substring(0, place);
                if (start.length() == Fields.ROOM[text]) continue;
                for (int b = 0; b < 256; b++) {
                    boolean fits = may[place].indexOf(b) >= 0;
                    boolean ends = place == may.length - 2;
                    int want = !fits ? start.length() : ends ? NONE : start.length() + 1;
                    due("byte " + b + " behind '" + start + "'", want, faultOf(text, start + (char) b));
                }
            }
        }
    }

    private void everyBeginning(int text) {
        CabbageCradles x = new CabbageCradles();
        String all = Fields.times(8, PART[text]);
        int step = PART[text].length() + 1;
        due("an empty one is well", NONE, x.fault(text));
        for (int n = 1; n <= all.length(); n++) {
            x.type(text, all.charAt(n - 1));
            boolean ended = n % step == step - 1;
            due("not ended with " + n + " bytes: its end", ended ? NONE : n, x.fault(text));
            due("parts with " + n + " bytes", ended ? (n + 1) / step : 0, x.count(text));
        }
        for (int n = all.length() - 1; n > 0; n--) {
            x.undo(text);
            boolean ended = n % step == step - 1;
            due("undone to " + n + " bytes", ended ? NONE : n, x.fault(text));
            due("parts undone to " + n + " bytes", ended ? (n + 1) / step : 0, x.count(text));
        }
        x.undo(text);
        due("undone to an empty one", NONE, x.fault(text));
    }

    private void theFirstFaultStays(int text) {
        CabbageCradles x = typed(text, PART[text] + "x");
        int place = PART[text].length();
        due("the first byte that cannot be", place, x.fault(text));
        for (int n = place + 1; n < Fields.ROOM[text]; n++) {
            x.type(text, n % 2 == 0 ? ';' : 's');
            due("bytes behind a FAULT do not move it", place, x.fault(text));
        }
        for (int n = Fields.ROOM[text]; n > place + 1; n--) x.undo(text);
        due("nor does undoing them", place, x.fault(text));
        x.undo(text);
        due("with that byte undone the text is well", NONE, x.fault(text));
        due("a FAULT at 0", 0, faultOf(text, ";" + PART[text]));
        due("of two the first", 1, faultOf(text, "s39x"));
        due("a byte with the sign of another kind", 0, faultOf(text, "" + (char) ('s' - 32)));
        due("two ; in a row", place + 1, faultOf(text, PART[text] + ";;"));
        due("parts with nothing between them", place, faultOf(text, PART[text] + PART[text]));
    }

    private void eightButNoNinth(int text) {
        CabbageCradles x = typed(text, Fields.times(7, PART[text]));
        due("seven", 7, x.count(text));
        Fields.type(x, text, ";" + PART[text]);
        due("8 at most", 8, x.count(text));
        due("8 are well", NONE, x.fault(text));
        due("a ninth cannot begin", FULL, x.type(text, ';'));
        due("still 8", 8, x.count(text));
        due("still well", NONE, x.fault(text));
    }

    private void wiping(int text) {
        CabbageCradles x = Fields.of(Fields.times(8, PART[0]), Fields.times(8, PART[1]));
        due("how many a full one had", Fields.ROOM[text], x.wipe(text));
        due("it is empty", 0, x.count(2 + text));
        due("it is empty", 0, x.count(text));
        due("it is well", NONE, x.fault(text));
        due("an empty one had 0", 0, x.wipe(text));
        due("nothing to undo behind it", NOT, x.undo(text));
        due("the other stays", Fields.ROOM[1 - text], x.count(3 - text));
        due("the other stays", 8, x.count(1 - text));
        for (int n = 1; n <= Fields.ROOM[text]; n++) due("all of its room is back", n, x.type(text, 0));
        due("and no more", FULL, x.type(text, 0));
        due("faulty bytes count, too", Fields.ROOM[text], x.wipe(text));
    }

    private void undoing(int text) {
        CabbageCradles x = Fields.of(Fields.times(8, PART[0]), Fields.times(8, PART[1]));
        for (int n = Fields.ROOM[text] - 1; n >= 0; n--) due("how many are left", n, x.undo(text));
        for (int k = 0; k < 3; k++) due("NOT: it is empty", NOT, x.undo(text));
        due("NOT changes nothing", 0, x.count(2 + text));
        due("the other stays", Fields.ROOM[1 - text], x.count(3 - text));
        due("a byte comes behind nothing", 1, x.type(text, 's'));
    }

    private void everyHead() {
        for (int sort = 0; sort < 3; sort++) {
            for (int day = 0; day < 30; day++) {
                CabbageCradles x = Fields.of("" + "srp".charAt(sort) + Fields.day(day), "");
                due("its sort", sort, x.head(0, 0));
                due("the DAY on which it is to be RIPE (00 to 29)", day, x.head(0, 1));
            }
        }
        due("no DAY 30", BAD, Fields.of("s30", "").head(0, 0));
        CabbageCradles x = Fields.of("s00;r01;p02;s13;r14;p25;s28;p29", "");
        int[] days = {0, 1, 2, 13, 14, 25, 28, 29};
        for (int h = 0; h < 8; h++) due("HEAD " + h + " of 8", days[h], x.head(h, 1));
    }

    private void everyCouple() {
        for (int want = 0; want < 4; want++) {
            for (int from = 0; from < 30; from++) {
                int stay = 1 + (from + want) % 9;
                CabbageCradles x = Fields.of("", "" + "srpa".charAt(want) + Fields.day(from) + stay);
                due("what it WANTS", want, x.couple(0, 0));
                due("the DAY FROM which (00 to 29)", from, x.couple(0, 1));
                due("on how many (1 to 9)", stay, x.couple(0, 2));
            }
        }
        due("not on 0 DAYS", BAD, Fields.of("", "a000").couple(0, 0));
        due("not FROM 30", BAD, Fields.of("", "a301").couple(0, 0));
        CabbageCradles x = Fields.of("", "s001;r012;p023;a134;s145;r256;p287;a299");
        int[] froms = {0, 1, 2, 13, 14, 25, 28, 29};
        for (int c = 0; c < 8; c++) due("COUPLE " + c + " of 8", froms[c], x.couple(c, 1));
        due("the longest", 9, x.couple(7, 2));
        due("the shortest", 1, x.couple(0, 2));
    }

    private void numbersOfHeads() {
        for (int n = 0; n <= 8; n++) {
            CabbageCradles x = Fields.of(Fields.times(n, "r17"), "");
            for (int h = 0; h <= 8; h++) due("HEAD " + h + " of " + n, h < n ? 17 : BAD, x.head(h, 1));
            for (int h : new int[] {-1, Fields.LEAST, Fields.MOST}) due("no HEAD " + h, BAD, x.head(h, 1));
        }
        CabbageCradles x = Fields.of("r17", "");
        due("the least what", 1, x.head(0, 0));
        for (int what : new int[] {-1, 2, Fields.LEAST, Fields.MOST}) due("no what " + what, BAD, x.head(0, what));
    }

    private void numbersOfCouples() {
        for (int n = 0; n <= 8; n++) {
            CabbageCradles x = Fields.of("", Fields.times(n, "p176"));
            for (int c = 0; c <= 8; c++) due("COUPLE " + c + " of " + n, c < n ? 17 : BAD, x.couple(c, 1));
            for (int c : new int[] {-1, Fields.LEAST, Fields.MOST}) due("no COUPLE " + c, BAD, x.couple(c, 1));
        }
        CabbageCradles x = Fields.of("", "p176");
        due("the least what", 2, x.couple(0, 0));
        due("the greatest what", 6, x.couple(0, 2));
        for (int what : new int[] {-1, 3, Fields.LEAST, Fields.MOST}) due("no what " + what, BAD, x.couple(0, what));
    }

    private void faultyHeadsAreNone() {
        CabbageCradles x = Fields.of("r04;r05;", "r049;a049");
        String as = "HEADS with a FAULT are as if empty";
        due(as, 0, x.count(0));
        due("but its bytes are there", 8, x.count(2));
        due(as, 8, x.fault(0));
        due(as, BAD, x.head(0, 0));
        due(as, BAD, x.state(4, 0));
        due(as, BAD, x.lifted(0, 0));
        due(as, BAD, x.sow(0, 0));
        due(as, BAD, x.was(0, 0));
        due(as, BAD, x.ask(0));
        due(as, NONE, x.gets(0, 0));
        due(as, 0, x.children(39));
        due(as, 3, x.without());
        due(as, 0, x.met());
        due(as, NONE, x.keep(0, NONE));
        due(as, NONE, x.come(0, 0));
        due(as, 0, x.chill(0, 0, 0, 0));
        due(as, 1, x.chill(0, 0, 0, 1));
        due(as, 2, x.year(0, 1));
        x.sheet(0, 0, 3);
        due(as, 0, x.write(39, 0));
        due("a RABBIT may come all the same", 1, x.rabbit(4, 1));
        x.undo(0);
        due("without the FAULT they are back", 2, x.count(0));
        due("and so is the RABBIT", 3, x.state(4, 1));
    }

    private void faultyCouplesAreNone() {
        CabbageCradles x = Fields.of("r04;r05", "r049;a04");
        String as = "COUPLES with a FAULT are as if empty";
        due(as, 0, x.count(1));
        due("but its bytes are there", 8, x.count(3));
        due(as, 8, x.fault(1));
        due(as, BAD, x.couple(0, 0));
        due(as, BAD, x.gets(0, 0));
        due(as, BAD, x.keep(0, NONE));
        due(as, BAD, x.come(0, 0));
        due(as, Fields.LONG_BAD, x.chill(0, 0, 0, 0));
        due(as, 0, x.without());
        due(as, 0, x.met());
        due(as, NONE, x.turn(0));
        due(as, 0, x.children(39));
        due(as, NONE, x.ask(0));
        due(as, 0, x.sow(0, 1));
        due(as, 0, x.year(0, 1));
        due(as, 4, x.state(39, 0));
        due(as, 7, x.was(0, 0));
        x.seen(0, 8);
        due("SEEN of a COUPLE that there is not: never", 0, x.was(0, 0));
        x.forget();
        x.type(1, '9');
        due("ended, they are there", 2, x.count(1));
        due("ended, they are there", 2, x.children(39));
    }
}
