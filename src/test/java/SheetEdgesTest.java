import java.math.BigInteger;

/** The boundary cases that the document names for sheets, counts and the digest: promises 11 and 29 to 36. */
public final class SheetEdgesTest {
    private static final int NONE = Fields.NONE, BAD = Fields.BAD;
    private static final int NULL = Fields.NULL, INDEX = Fields.INDEX, CAST = Fields.CAST;
    private static final int LEAST = Fields.LEAST, MOST = Fields.MOST;
    private static final int[] NO_SHEET = {-1, 4, LEAST, MOST};
    private static final int[] NO_FORM = {-1, 3, LEAST, MOST};

    private final Check check = new Check();

    public static void main(String[] args) {
        SheetEdgesTest test = new SheetEdgesTest();
        test.sizes();
        test.newRows();
        test.losing();
        test.noSheetOrForm();
        for (int form = 0; form < 3; form++) {
            test.items(form);
            test.otherForms(form);
            test.copiesOntoItself(form);
            test.copiesOfAll(form);
            test.writes(form);
            test.reads(form);
        }
        test.lowestBits();
        test.leastIntAsAnItem();
        test.copiesBetween();
        test.copiesOutOfRange();
        test.readsUntilFull();
        test.readsAsLongAsEachMayBe();
        test.findings();
        test.counts();
        test.digestsThatWrap();
        test.digestsOfFaults();
        test.digestsOfDays();
        test.digestsOfSights();
        test.check.end();
    }

    private void due(String sentence, long want, long got) {
        check.due(sentence, want, got);
    }

    private void items(String sentence, CabbageCradles x, int s, int form, int... want) {
        for (int i = 0; i < want.length; i++) due(sentence + ": item " + i, want[i], x.get(s, form, i));
        int before = x.count(8);
        due(sentence + ": and no more", LEAST, x.get(s, form, want.length));
        due(sentence + ": INDEX", 2, x.count(8));
        check.holds("a FINDING's number", before >= 0 && before <= 5);
    }

    private void sizes() {
        for (int form = 0; form < 3; form++) {
            for (int n = 0; n <= 60; n++) {
                CabbageCradles x = new CabbageCradles();
                due("0 to 60 items: n", n, x.sheet(n % 4, form, n));
                due("how many items it had", n, x.lose(n % 4));
            }
            CabbageCradles x = new CabbageCradles();
            for (int n : new int[] {61, 62, MOST}) due("above 60: BAD", BAD, x.sheet(0, form, n));
            due("BAD is no FINDING", 0, x.count(8));
            due("BAD makes no SHEET", NULL, x.lose(0));
            for (int n : new int[] {-1, -60, LEAST}) due("below 0: SIZE", Fields.SIZE, x.sheet(0, form, n));
            due("SIZE is 5", 5, x.count(8));
            due("SIZE makes no SHEET", NULL, x.lose(0));
        }
    }

    private void newRows() {
        CabbageCradles x = new CabbageCradles();
        Fields.row(x, 0, 2, 5, 6, 7);
        due("SIZE leaves the row that is there", Fields.SIZE, x.sheet(0, 2, -1));
        items("SIZE leaves the row that is there", x, 0, 2, 5, 6, 7);
        due("BAD leaves the row that is there", BAD, x.sheet(0, 2, 61));
        due("BAD leaves the row that is there", BAD, x.sheet(0, 3, 1));
        items("BAD leaves the row that is there", x, 0, 2, 5, 6, 7);
        due("a new row of its length", 3, x.sheet(0, 2, 3));
        items("0 at first, whatever was there", x, 0, 2, 0, 0, 0);
        Fields.row(x, 0, 2, 5, 6, 7);
        due("a shorter one", 1, x.sheet(0, 1, 1));
        items("of another FORM", x, 0, 1, 0);
        due("a longer one", 4, x.sheet(0, 2, 4));
        items("0 at first, whatever was there", x, 0, 2, 0, 0, 0, 0);
        due("one of no items", 0, x.sheet(0, 0, 0));
        items("one of no items", x, 0, 0);
        due("is not LOST", 0, x.lose(0));
        due("but now", NULL, x.lose(0));
        due("60", 60, x.sheet(0, 0, 60));
        for (int i = 0; i < 60; i++) due("0 at first", 0, x.get(0, 0, i));
    }

    private void losing() {
        CabbageCradles x = new CabbageCradles();
        for (int s = 0; s < 4; s++) x.sheet(s, 0, s + 1);
        due("how many items it had", 4, x.lose(3));
        due("NULL: it is LOST", NULL, x.lose(3));
        for (int s = 0; s < 3; s++) due("the others are not", s + 1, x.lose(s));
        Fields.row(x, 0, 2, 9, 9);
        x.lose(0);
        x.sheet(0, 2, 2);
        items("LOST and new, it is 0 at first", x, 0, 2, 0, 0);
    }

    private void noSheetOrForm() {
        CabbageCradles x = new CabbageCradles();
        for (int s = 0; s < 4; s++) x.sheet(s, 2, 1);
        for (int s : NO_SHEET) {
            due("no SHEET " + s, BAD, x.sheet(s, 0, 0));
            due("no SHEET " + s, BAD, x.lose(s));
            due("no SHEET " + s, BAD, x.lay(s, 2, 0, 1));
            due("no SHEET " + s, LEAST, x.get(s, 2, 0));
            due("no SHEET " + s, BAD, x.copy(s, 0, 0, 0, 0));
            due("no SHEET " + s, BAD, x.copy(0, 0, s, 0, 0));
            due("no SHEET " + s, BAD, x.write(0, s));
            due("no SHEET " + s, BAD, x.read(s));
        }
        for (int form : NO_FORM) {
            due("no FORM " + form, BAD, x.sheet(0, form, 0));
            due("no FORM " + form, BAD, x.lay(0, form, 0, 1));
            due("no FORM " + form, LEAST, x.get(0, form, 0));
        }
        for (int day : new int[] {-1, 40, LEAST, MOST}) due("no DAY " + day, BAD, x.write(day, 0));
        due("BAD is no FINDING", 0, x.count(8));
        for (int s = 0; s < 4; s++) items("BAD changes nothing", x, s, 2, 0);
    }

    private void items(int form) {
        for (int n : new int[] {0, 1, 2, 59, 60}) {
            CabbageCradles x = new CabbageCradles();
            x.sheet(3, form, n);
            for (int i = 0; i < n; i++) due("item " + i + " of " + n, 1, x.lay(3, form, i, i - 30));
            for (int i = 0; i < n; i++) due("item " + i + " of " + n, i - 30, x.get(3, form, i));
            due("no FINDING yet", 0, x.count(8));
            for (int i : new int[] {-1, n, n + 1, 60, 61, LEAST, MOST}) {
                due("no item " + i + " of " + n, INDEX, x.lay(3, form, i, 77));
                due("no item " + i + " of " + n, LEAST, x.get(3, form, i));
                due("INDEX is 2", 2, x.count(8));
            }
            for (int i = 0; i < n; i++) due("INDEX changes nothing", i - 30, x.get(3, form, i));
        }
    }

    private void otherForms(int form) {
        CabbageCradles x = new CabbageCradles();
        for (int other = 0; other < 3; other++) {
            if (other == form) continue;
            Fields.row(x, 1, form, 4, 5);
            due("it has another FORM", CAST, x.lay(1, other, 0, 77));
            due("CAST is 3", 3, x.count(8));
            due("CAST is told ahead of INDEX", CAST, x.lay(1, other, 2, 77));
            due("CAST is told ahead of INDEX", CAST, x.lay(1, other, -1, 77));
            items("CAST changes nothing", x, 1, form, 4, 5);
            due("it has another FORM", LEAST, x.get(1, other, 0));
            due("CAST is 3", 3, x.count(8));
            due("NULL is told ahead of CAST and INDEX", NULL, x.lay(2, other, -1, 77));
            due("CAST is told ahead of INDEX", LEAST, x.get(1, other, 2));
            due("CAST is 3", 3, x.count(8));
            due("NULL is told ahead of CAST and INDEX", LEAST, x.get(2, other, -1));
            due("NULL is 1", 1, x.count(8));
        }
        x.sheet(1, form, 0);
        due("a SHEET of no items has a FORM", INDEX, x.lay(1, form, 0, 0));
        due("a SHEET of no items has a FORM", CAST, x.lay(1, (form + 1) % 3, 0, 0));
    }

    private void lowestBits() {
        int[] laid = {0, 1, -1, 127, 128, 129, 255, 256, 257, -127, -128, -129, -256, -257, 32767, 32768, 32769, 65535,
            65536, 65537, -32767, -32768, -32769, -65536, -65537, MOST, LEAST, MOST - 255, LEAST + 255, 0x12345678};
        CabbageCradles x = new CabbageCradles();
        for (int form = 0; form < 3; form++) x.sheet(form, form, laid.length);
        for (int form = 0; form < 3; form++) {
            for (int i = 0; i < laid.length; i++) due("laid", 1, x.lay(form, form, i, laid[i]));
        }
        for (int i = 0; i < laid.length; i++) {
            due("a byte of " + laid[i], cut(laid[i], 8), x.get(0, 0, i));
            due("a short of " + laid[i], cut(laid[i], 16), x.get(1, 1, i));
            due("an int of " + laid[i], laid[i], x.get(2, 2, i));
        }
    }

    /** The lowest bits as a number with a sign, by counting round. */
    private static long cut(int v, int bits) {
        long round = 1L << bits;
        long rest = Math.floorMod((long) v, round);
        return rest >= round / 2 ? rest - round : rest;
    }

    private void leastIntAsAnItem() {
        CabbageCradles x = new CabbageCradles();
        Fields.row(x, 0, 2, LEAST);
        due("an item may be the least int", LEAST, x.get(0, 2, 0));
        due("which is no FINDING", 0, x.count(8));
        due("BAD is the least int", LEAST, x.get(4, 2, 0));
        due("which is no FINDING either", 0, x.count(8));
        due("INDEX is the least int", LEAST, x.get(0, 2, 1));
        due("which count() 8 tells", 2, x.count(8));
    }

    private static CabbageCradles counted(int s, int form, int n) {
        CabbageCradles x = new CabbageCradles();
        x.sheet(s, form, n);
        for (int i = 0; i < n; i++) x.lay(s, form, i, i + 1);
        return x;
    }

    private void copiesOntoItself(int form) {
        for (int n : new int[] {1, 2, 5, 60}) {
            for (int by = -3; by <= 3; by++) {
                int length = n - Math.abs(by);
                if (length < 0) continue;
                CabbageCradles x = counted(2, form, n);
                int from = Math.max(-by, 0);
                int to = Math.max(by, 0);
                due("onto itself by " + by, 1, x.copy(2, from, 2, to, length));
                for (int i = 0; i < n; i++) {
                    boolean moved = i >= to && i < to + length;
                    due("as they were, by " + by, moved ? i - by + 1 : i + 1, x.get(2, form, i));
                }
            }
        }
    }

    private void copiesOfAll(int form) {
        CabbageCradles x = counted(0, form, 60);
        x.sheet(3, form, 60);
        due("60 items", 1, x.copy(0, 0, 3, 0, 60));
        for (int i = 0; i < 60; i++) due("60 items", i + 1, x.get(3, form, i));
        due("61 are not so many", INDEX, x.copy(0, 0, 3, 0, 61));
        due("nor 60 from 1 on", INDEX, x.copy(0, 1, 3, 0, 60));
        due("nor 60 to 1 on", INDEX, x.copy(0, 0, 3, 1, 60));
        due("no items at the end", 1, x.copy(0, 60, 3, 60, 0));
        due("the last item to the first", 1, x.copy(0, 59, 3, 0, 1));
        due("the first item to the last", 1, x.copy(0, 0, 3, 59, 1));
        due("the last item came to the first", 60, x.get(3, form, 0));
        due("the first item came to the last", 1, x.get(3, form, 59));
        due("the one between stays", 2, x.get(3, form, 1));
        due("s stays as it was", 60, x.get(0, form, 59));
        x.sheet(3, form, 0);
        due("none to a SHEET of no items", 1, x.copy(0, 0, 3, 0, 0));
        due("none from a SHEET of no items", 1, x.copy(3, 0, 0, 0, 0));
        due("none of a SHEET of no items onto itself", 1, x.copy(3, 0, 3, 0, 0));
        due("one to a SHEET of no items", INDEX, x.copy(0, 0, 3, 0, 1));
        due("one from a SHEET of no items", INDEX, x.copy(3, 0, 0, 0, 1));
    }

    private void copiesBetween() {
        for (int form = 0; form < 3; form++) {
            for (int other = 0; other < 3; other++) {
                CabbageCradles x = new CabbageCradles();
                Fields.row(x, 0, form, 1, 2, 3);
                Fields.row(x, 1, other, 7, 8);
                int want = form == other ? 1 : Fields.STORE;
                due("unlike FORMS", want, x.copy(0, 1, 1, 0, 2));
                due("STORE is 4", form == other ? 0 : 4, x.count(8));
                items("s stays", x, 0, form, 1, 2, 3);
                if (form == other) items("t has them", x, 1, other, 2, 3);
                else items("STORE changes nothing", x, 1, other, 7, 8);
                due("STORE is told ahead of INDEX", form == other ? INDEX : Fields.STORE, x.copy(0, -1, 1, 0, 1));
                due("unlike FORMS with no items", want, x.copy(0, 0, 1, 0, 0));
                due("NULL: s, ahead of INDEX", NULL, x.copy(2, -1, 1, 0, -1));
                due("NULL: t, ahead of INDEX", NULL, x.copy(0, -1, 2, 0, -1));
                due("NULL: both", NULL, x.copy(2, 0, 3, 0, 0));
                due("NULL is 1", 1, x.count(8));
                due("BAD is told ahead of NULL", BAD, x.copy(2, 0, 4, 0, 0));
                due("BAD is told ahead of NULL", BAD, x.copy(-1, 0, 2, 0, 0));
            }
        }
    }

    private void copiesOutOfRange() {
        int[][] off = {{-1, 0, 0}, {0, -1, 0}, {0, 0, -1}, {-1, 0, 1}, {0, -1, 1}, {4, 0, 0}, {0, 3, 0}, {3, 0, 1},
            {0, 2, 1}, {2, 0, 2}, {0, 1, 2}, {0, 0, 3}, {LEAST, 0, 0}, {0, LEAST, 0}, {0, 0, LEAST}, {MOST, 0, 0},
            {0, MOST, 0}, {0, 0, MOST}, {1, 0, MOST}, {0, 1, MOST}, {MOST, 0, 1}, {0, MOST, 1}, {MOST, MOST, MOST},
            {LEAST, LEAST, LEAST}, {MOST, 0, LEAST}, {1, 1, -1}};
        for (int[] o : off) {
            CabbageCradles x = new CabbageCradles();
            Fields.row(x, 0, 1, 1, 2, 3);
            Fields.row(x, 1, 1, 7, 8);
            due("from " + o[0] + " to " + o[1] + ", " + o[2], INDEX, x.copy(0, o[0], 1, o[1], o[2]));
            due("INDEX is 2", 2, x.count(8));
            items("INDEX changes nothing", x, 1, 1, 7, 8);
            items("INDEX changes nothing", x, 0, 1, 1, 2, 3);
        }
    }

    private void writes(int form) {
        for (int heads = 0; heads <= 8; heads++) {
            for (int n : new int[] {0, 1, 7, 8, 9, 60}) {
                CabbageCradles x = Fields.of(Fields.times(heads, "p29"), "");
                x.sheet(1, form, n);
                for (int i = 0; i < n; i++) x.lay(1, form, i, 9);
                int most = Math.min(heads, n);
                due("as many as there are items and HEADS", most, x.write(39, 1));
                for (int i = 0; i < n; i++) due("item " + i, i < most ? 4 : 9, x.get(1, form, i));
            }
        }
        CabbageCradles x = Fields.gnawed(Fields.of("r20;r10;p00;r10;p09", "p009"), 3, 0);
        x.sheet(0, form, 5);
        int[][] want = {{0, 0, 2, 3, 0}, {0, 1, 2, 3, 4}, {4, 4, 2, 3, 4}};
        int[] days = {0, 10, 39};
        for (int k = 0; k < 3; k++) {
            due("behind DAY " + days[k], 5, x.write(days[k], 0));
            items("behind DAY " + days[k], x, 0, form, want[k]);
        }
        due("BAD is told ahead of NULL", BAD, x.write(40, 2));
        due("BAD is told ahead of NULL", BAD, x.write(-1, 2));
        due("still INDEX", 2, x.count(8));
        due("NULL", NULL, x.write(39, 2));
        due("NULL is 1", 1, x.count(8));
    }

    private void reads(int form) {
        for (int n = 0; n <= 60; n++) {
            CabbageCradles x = new CabbageCradles();
            x.sheet(0, form, n);
            int most = Math.min(n / 2, 8);
            due("two for each, as many as are whole: " + n, most, x.read(0));
            due("RABBITS by " + n, most, x.count(5));
            due("no FINDING", 0, x.count(8));
        }
        CabbageCradles x = Fields.of(Fields.times(8, "r10"), "");
        Fields.row(x, 0, form, 0, 0, 39, 7, 10, 1, 5);
        due("three and a half", 3, x.read(0));
        due("on the first DAY at the first HEAD", 3, x.state(0, 0));
        due("on the last DAY at the last HEAD", 4, x.state(38, 7));
        due("on the last DAY at the last HEAD", 3, x.state(39, 7));
        due("the DAY first, then the HEAD", 3, x.state(10, 1));
        due("and at no other", 4, x.state(39, 5));
        due("the last that was read is the last", 2, x.back(2));
        due("the last that was read is the last", 4, x.state(39, 1));
        due("the SHEET stays", 39, x.get(0, form, 2));
        due("BAD", BAD, x.read(4));
        due("NULL", NULL, x.read(1));
        due("neither adds a RABBIT", 2, x.count(5));
    }

    private void readsUntilFull() {
        for (int there = 0; there <= 8; there++) {
            CabbageCradles x = new CabbageCradles();
            for (int i = 0; i < there; i++) x.rabbit(0, 0);
            x.sheet(0, 0, 10);
            due(there + " are there", Math.min(5, 8 - there), x.read(0));
            due(there + " are there", Math.min(5 + there, 8), x.count(5));
        }
    }

    private void readsAsLongAsEachMayBe() {
        int[][] off = {{40, 0}, {-1, 0}, {0, 8}, {0, -1}, {127, 0}, {0, 127}, {-128, 0}, {0, -128}, {40, 8}};
        for (int[] o : off) {
            for (int form = 0; form < 3; form++) {
                CabbageCradles x = new CabbageCradles();
                Fields.row(x, 0, form, 1, 1, o[0], o[1], 2, 2);
                due("as long as each may be: " + o[0] + ", " + o[1], 1, x.read(0));
                due("none behind it", 1, x.count(5));
                due("no FINDING", 0, x.count(8));
                Fields.row(x, 0, form, o[0], o[1], 2, 2);
                due("the first may not be", 0, x.read(0));
            }
        }
        CabbageCradles x = new CabbageCradles();
        Fields.row(x, 0, 2, 256, 0);
        due("an int is not cut to a byte", 0, x.read(0));
        Fields.row(x, 0, 2, 65536, 0);
        due("an int is not cut to a short", 0, x.read(0));
        Fields.row(x, 0, 2, 0, LEAST);
        due("the least int", 0, x.read(0));
        Fields.row(x, 0, 0, 256, 263);
        due("a byte is, when it is laid", 1, x.read(0));
    }

    private void findings() {
        CabbageCradles x = new CabbageCradles();
        due("0 before any", 0, x.count(8));
        due("NULL", NULL, x.lose(0));
        due("1", 1, x.count(8));
        due("SIZE", Fields.SIZE, x.sheet(0, 0, -1));
        due("the latest: 5", 5, x.count(8));
        x.sheet(0, 0, 1);
        x.sheet(1, 1, 1);
        due("what goes well leaves it", 5, x.count(8));
        due("STORE", Fields.STORE, x.copy(0, 0, 1, 0, 1));
        due("the latest: 4", 4, x.count(8));
        due("CAST", CAST, x.lay(0, 1, 0, 0));
        due("the latest: 3", 3, x.count(8));
        due("INDEX", INDEX, x.lay(0, 0, 1, 0));
        due("the latest: 2", 2, x.count(8));
        due("BAD leaves it", BAD, x.lay(4, 0, 1, 0));
        due("NOT leaves it", Fields.NOT, x.undo(0));
        due("NONE leaves it", NONE, x.turn(0));
        due("the latest: 2", 2, x.count(8));
        due("NULL by read", NULL, x.read(2));
        due("the latest: 1", 1, x.count(8));
    }

    private void counts() {
        CabbageCradles x = Fields.of(Fields.times(8, "r10"), Fields.times(8, "r101"));
        for (int i = 0; i < 6; i++) Fields.wet(Fields.frozen(x, i), 10);
        for (int i = 0; i < 8; i++) x.rabbit(39, i);
        for (int i = 0; i < 8; i++) x.seen(i, 8);
        x.sheet(0, 0, -1);
        int[] most = {8, 8, 31, 39, 12, 8, 16, 8, 5};
        for (int what = 0; what <= 8; what++) due("all that there can be: " + what, most[what], x.count(what));
        for (int what : new int[] {-1, 9, LEAST, MOST}) due("no what " + what, BAD, x.count(what));
        due("6 FROSTS of 12", 5, x.back(0));
        due("6 WET DAYS of 12", 5, x.back(1));
        due("FROSTS and WET DAYS together", 10, x.count(4));
    }

    private void digestsThatWrap() {
        String heads = "s04;r05;p06;s04;p09;r29;s29;p00";
        String couples = "a053;s049;p061;r029;p099;a006;s009;a299";
        for (int n = 0; n <= 8; n++) {
            CabbageCradles x = Fields.of(heads.substring(0, Math.max(4 * n - 1, 0)), couples.substring(0, Math.max(5 * n - 1, 0)));
            Fields.wet(Fields.frozen(x, 3), 4, 6);
            x.rabbit(5, 1);
            x.rabbit(8, 4);
            due(n + " HEADS and COUPLES, as longs that wrap", digestByRounds(x), x.digest());
            long before = x.digest();
            x.lose(0);
            x.sheet(1, 0, 7);
            due("neither FINDINGS nor SHEETS come into it", before, x.digest());
            x.seen(0, 8);
            check.holds("what is SEEN does", before != x.digest());
        }
    }

    private void digest(String sentence, CabbageCradles x) {
        due(sentence, digestByRounds(x), x.digest());
    }

    private void digestsOfFaults() {
        digest("HEADS without COUPLES", Fields.of("s04;r05", ""));
        digest("COUPLES without HEADS", Fields.of("", "a053;s049"));
        digest("more HEADS", Fields.of("s04;r05;p06", "a053"));
        digest("more COUPLES", Fields.of("s04", "a053;s049;p061"));
        digest("a FAULT of HEADS", Fields.of("s04;", "a053;s049"));
        digest("a FAULT of COUPLES", Fields.of("s04;r05", "a05"));
        digest("FAULTS of both", Fields.of("s", "a053;x"));
    }

    /** Things that come about on the very days that the digest asks for, and next to them. */
    private void digestsOfDays() {
        for (int day = 8; day <= 10; day++) {
            digest("LIFTED on DAY " + day, Fields.of("p" + Fields.day(day), "p" + Fields.day(day) + 1));
            digest("RIPE on DAY " + day, Fields.of("p" + Fields.day(day), "s001"));
        }
        for (int day = 37; day < 40; day++) digest("LOST on DAY " + day, Fields.gnawed(Fields.of("p10", "p101"), 0, day));
        for (int day = 37; day < 40; day++) digest("LOST on DAY " + day, Fields.gnawed(Fields.of("p10", ""), 0, day));
        for (int ripe = 5; ripe < 10; ripe++) {
            digest("pointed, to be RIPE on " + ripe, Fields.of("p" + Fields.day(ripe), "p" + Fields.day(ripe) + 1));
        }
        CabbageCradles x = Fields.of(Fields.times(8, "r10"), "a009;a099;a189;a279");
        check.holds("by SEED 7 there are children", x.year(7, 0) > 0 && x.year(7, 1) >= 0);
        digest("by SEED 7 there are children", x);
        digest("some go WITHOUT by SEED 7", Fields.of("r10", "r001;r101;r201;a009;a099;a189;a279"));
    }

    /** Of each head another row of sorts and of days comes out so, and there is another couple to ask. */
    private void digestsOfSights() {
        CabbageCradles x = Fields.of("s04;r05;p06", "s049;a059;p069");
        x.seen(0, 0);
        check.holds("SORTS differ", x.was(0, 0) != x.was(1, 0));
        check.holds("DAYS differ", x.was(0, 1) != x.was(1, 1));
        digest("what was SEEN", x);
        x.seen(2, 2);
        x.rabbit(7, 1);
        digest("more that was SEEN, and a RABBIT", x);
        x.seen(1, 8);
        digest("what never comes out so", x);
    }

    private static long digestByRounds(CabbageCradles x) {
        BigInteger[] h = {BigInteger.valueOf(17)};
        for (int what = 0; what < 8; what++) add(h, x.count(what));
        add(h, x.fault(0), x.fault(1));
        for (int i = 0; i < x.count(0); i++) {
            add(h, x.head(i, 0), x.head(i, 1), x.state(9, i), x.state(39, i), x.lifted(i, 0), x.lifted(i, 1),
                x.lifted(i, 2), x.sow(i, 0), x.sow(i, 1), x.was(i, 0), x.was(i, 1), x.ask(i));
        }
        for (int i = 0; i < x.count(1); i++) {
            add(h, x.couple(i, 0), x.couple(i, 1), x.couple(i, 2), x.gets(i, 0), x.gets(i, 1), x.gets(i, 2),
                x.keep(i, NONE), x.keep(i, 0), x.come(i, 0), x.come(i, 1), x.chill(5, 7, i, 0), x.chill(5, 7, i, 1));
        }
        add(h, x.children(9), x.without(), x.turn(0), x.turn(1), x.met(), x.never(), x.year(7, 0), x.year(7, 1));
        return h[0].longValue();
    }

    private static void add(BigInteger[] h, long... rows) {
        for (long row : rows) h[0] = h[0].multiply(BigInteger.valueOf(31)).add(BigInteger.valueOf(row));
    }
}
