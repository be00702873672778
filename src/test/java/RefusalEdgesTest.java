import java.util.function.ToLongFunction;

/**
 * Every refusal, and every question, on a field that is full and on one that is empty: it answers the
 * first refusal that fits, and an object that was never asked stands beside it and is still the same.
 */
public final class RefusalEdgesTest {
    private static final int BAD = Fields.BAD, NOT = Fields.NOT, FULL = Fields.FULL, NULL = Fields.NULL;
    private static final int INDEX = Fields.INDEX, CAST = Fields.CAST, STORE = Fields.STORE, SIZE = Fields.SIZE;

    private final Check check = new Check();

    public static void main(String[] args) {
        RefusalEdgesTest test = new RefusalEdgesTest();
        test.refusedByAFullField();
        test.refusedByAnEmptyField();
        test.refusedSheets();
        test.questionsChangeNothing();
        test.check.end();
    }

    private static CabbageCradles full() {
        CabbageCradles x = Fields.of("s04;r05;p06;s04;p09;r29;s10;p11", "a053;s049;p061;r029;p099;a006;s009;a109");
        Fields.wet(Fields.frozen(x, 3, 3, 8, 12, 20, 29), 0, 4, 5, 9, 9, 39);
        for (int i = 0; i < 8; i++) x.rabbit(5 + i, (3 * i + 1) % 8);
        for (int i = 0; i < 8; i++) x.seen(2, 8);
        for (int form = 0; form < 3; form++) Fields.row(x, form, form, 7, 8, 9);
        return x;
    }

    private static CabbageCradles empty() {
        CabbageCradles x = new CabbageCradles();
        for (int form = 0; form < 3; form++) Fields.row(x, form, form, 7, 8, 9);
        return x;
    }

    /** Whether an object and its twin answer alike, but for the latest finding, and stay alike. */
    private void alike(String call, CabbageCradles x, CabbageCradles twin, int finding) {
        check.due(call + ", the latest FINDING", finding, x.count(8));
        // from here on both have one and the same
        x.sheet(0, 0, -1);
        twin.sheet(0, 0, -1);
        for (int what = 0; what < 8; what++) check.due(call + ", count " + what, twin.count(what), x.count(what));
        check.due(call + ", digest", twin.digest(), x.digest());
        for (int s = 0; s < 4; s++) {
            for (int form = 0; form < 3; form++) {
                for (int i = 0; i < 4; i++) {
                    check.due(call + ", item " + i + " of SHEET " + s, twin.get(s, form, i), x.get(s, form, i));
                    check.due(call + ", FINDING of item " + i, twin.count(8), x.count(8));
                }
            }
        }
        for (int what = 0; what < 3; what++) {
            check.due(call + ", back " + what, twin.back(what), x.back(what));
            check.due(call + ", one less", twin.digest(), x.digest());
        }
        check.due(call + ", forgotten", twin.forget(), x.forget());
        check.due(call + ", forgotten", twin.digest(), x.digest());
        for (int text = 0; text < 2; text++) check.due(call + ", undone", twin.undo(text), x.undo(text));
        for (int text = 0; text < 2; text++) check.due(call + ", wiped", twin.wipe(text), x.wipe(text));
    }

    private void refused(String call, long want, boolean onFull, ToLongFunction<CabbageCradles> asked) {
        CabbageCradles x = onFull ? full() : empty();
        check.due(call, want, asked.applyAsLong(x));
        boolean isFinding = want <= NULL && want >= SIZE;
        alike(call, x, onFull ? full() : empty(), isFinding ? (int) (-10 - want) : 0);
    }

    private void refusedByAFullField() {
        refused("type(0, ';')", FULL, true, x -> x.type(0, ';'));
        refused("type(1, ';')", FULL, true, x -> x.type(1, ';'));
        refused("type(0, 256)", BAD, true, x -> x.type(0, 256));
        refused("type(1, -1)", BAD, true, x -> x.type(1, -1));
        refused("type(2, 's')", BAD, true, x -> x.type(2, 's'));
        refused("type(-1, 256)", BAD, true, x -> x.type(-1, 256));
        refused("wipe(2)", BAD, true, x -> x.wipe(2));
        refused("undo(-1)", BAD, true, x -> x.undo(-1));
        refused("weather(0, 0)", FULL, true, x -> x.weather(0, 0));
        refused("weather(1, 0)", FULL, true, x -> x.weather(1, 0));
        refused("weather(0, 30)", BAD, true, x -> x.weather(0, 30));
        refused("weather(1, 40)", BAD, true, x -> x.weather(1, 40));
        refused("weather(2, 0)", BAD, true, x -> x.weather(2, 0));
        refused("rabbit(0, 0)", FULL, true, x -> x.rabbit(0, 0));
        refused("rabbit(40, 0)", BAD, true, x -> x.rabbit(40, 0));
        refused("rabbit(0, 8)", BAD, true, x -> x.rabbit(0, 8));
        refused("back(3)", BAD, true, x -> x.back(3));
        refused("back(-1)", BAD, true, x -> x.back(-1));
        refused("seen(0, 0)", FULL, true, x -> x.seen(0, 0));
        refused("seen(8, 0)", BAD, true, x -> x.seen(8, 0));
        refused("seen(0, 9)", BAD, true, x -> x.seen(0, 9));
        refused("read(0) when 8 are there", 0, true, x -> x.read(0));
        refused("sow(8, 0)", BAD, true, x -> x.sow(8, 0));
        refused("sow(0, 2)", BAD, true, x -> x.sow(0, 2));
        refused("come(8, 0)", BAD, true, x -> x.come(8, 0));
        refused("keep(0, 2)", BAD, true, x -> x.keep(0, 2));
        refused("was(0, 2)", BAD, true, x -> x.was(0, 2));
        refused("ask(8)", BAD, true, x -> x.ask(8));
        refused("chill(17, 0, 0, 0)", Fields.LONG_BAD, true, x -> x.chill(17, 0, 0, 0));
        refused("chill(0, 10, 0, 0)", Fields.LONG_BAD, true, x -> x.chill(0, 10, 0, 0));
        refused("chill(0, 0, 8, 0)", Fields.LONG_BAD, true, x -> x.chill(0, 0, 8, 0));
        refused("chill(0, 0, 0, 2)", Fields.LONG_BAD, true, x -> x.chill(0, 0, 0, 2));
        refused("year(0, 2)", BAD, true, x -> x.year(0, 2));
        refused("count(9)", BAD, true, x -> x.count(9));
    }

    private void refusedByAnEmptyField() {
        refused("undo(0)", NOT, false, x -> x.undo(0));
        refused("undo(1)", NOT, false, x -> x.undo(1));
        refused("undo(2)", BAD, false, x -> x.undo(2));
        for (int what = 0; what < 3; what++) {
            int each = what;
            refused("back(" + what + ")", NOT, false, x -> x.back(each));
        }
        refused("back(3)", BAD, false, x -> x.back(3));
        refused("wipe(0)", 0, false, x -> x.wipe(0));
        refused("forget()", 0, false, x -> x.forget());
        refused("head(0, 0)", BAD, false, x -> x.head(0, 0));
        refused("couple(0, 0)", BAD, false, x -> x.couple(0, 0));
        refused("state(0, 0)", BAD, false, x -> x.state(0, 0));
        refused("lifted(0, 0)", BAD, false, x -> x.lifted(0, 0));
        refused("gets(0, 0)", BAD, false, x -> x.gets(0, 0));
        refused("keep(0, -1)", BAD, false, x -> x.keep(0, -1));
        refused("sow(0, 0)", BAD, false, x -> x.sow(0, 0));
        refused("come(0, 0)", BAD, false, x -> x.come(0, 0));
        refused("was(0, 0)", BAD, false, x -> x.was(0, 0));
        refused("ask(0)", BAD, false, x -> x.ask(0));
        refused("chill(0, 0, 0, 0)", Fields.LONG_BAD, false, x -> x.chill(0, 0, 0, 0));
        refused("read(0), of which none may be", 0, false, x -> x.read(0));
        refused("write(0, 0) of no HEADS", 0, false, x -> x.write(0, 0));
    }

    private void refusedSheets() {
        for (boolean onFull : new boolean[] {true, false}) {
            refused("sheet(0, 0, -1)", SIZE, onFull, x -> x.sheet(0, 0, -1));
            refused("sheet(0, 0, 61)", BAD, onFull, x -> x.sheet(0, 0, 61));
            refused("sheet(4, 0, -1)", BAD, onFull, x -> x.sheet(4, 0, -1));
            refused("sheet(0, 3, -1)", BAD, onFull, x -> x.sheet(0, 3, -1));
            refused("lose(3)", NULL, onFull, x -> x.lose(3));
            refused("lose(4)", BAD, onFull, x -> x.lose(4));
            refused("read(3)", NULL, onFull, x -> x.read(3));
            refused("read(4)", BAD, onFull, x -> x.read(4));
            refused("lay(3, 0, -1, 5)", NULL, onFull, x -> x.lay(3, 0, -1, 5));
            refused("lay(3, 3, -1, 5)", BAD, onFull, x -> x.lay(3, 3, -1, 5));
            refused("lay(4, 0, 0, 5)", BAD, onFull, x -> x.lay(4, 0, 0, 5));
            refused("lay(0, 1, 3, 5)", CAST, onFull, x -> x.lay(0, 1, 3, 5));
            refused("lay(0, 0, 3, 5)", INDEX, onFull, x -> x.lay(0, 0, 3, 5));
            refused("lay(2, 2, -1, 5)", INDEX, onFull, x -> x.lay(2, 2, -1, 5));
            refused("copy(4, 0, 3, 0, -1)", BAD, onFull, x -> x.copy(4, 0, 3, 0, -1));
            refused("copy(3, 0, 4, 0, -1)", BAD, onFull, x -> x.copy(3, 0, 4, 0, -1));
            refused("copy(3, 0, 0, 0, -1)", NULL, onFull, x -> x.copy(3, 0, 0, 0, -1));
            refused("copy(0, 9, 3, 0, 1)", NULL, onFull, x -> x.copy(0, 9, 3, 0, 1));
            refused("copy(0, 9, 1, 0, 1)", STORE, onFull, x -> x.copy(0, 9, 1, 0, 1));
            refused("copy(0, 1, 1, 0, 1)", STORE, onFull, x -> x.copy(0, 1, 1, 0, 1));
            refused("copy(0, 2, 0, 0, 2)", INDEX, onFull, x -> x.copy(0, 2, 0, 0, 2));
            refused("copy(1, 0, 1, 2, 2)", INDEX, onFull, x -> x.copy(1, 0, 1, 2, 2));
            refused("copy(2, 0, 2, 1, -1)", INDEX, onFull, x -> x.copy(2, 0, 2, 1, -1));
            refused("write(0, 3)", NULL, onFull, x -> x.write(0, 3));
            refused("write(40, 3)", BAD, onFull, x -> x.write(40, 3));
            refused("write(40, 0)", BAD, onFull, x -> x.write(40, 0));
            refused("write(0, 4)", BAD, onFull, x -> x.write(0, 4));
        }
    }

    private void asked(String call, ToLongFunction<CabbageCradles> asked) {
        CabbageCradles x = full();
        long first = asked.applyAsLong(x);
        check.due(call + " asked again", first, asked.applyAsLong(x));
        alike(call, x, full(), 0);
    }

    private void questionsChangeNothing() {
        for (int what = 0; what < 9; what++) {
            int each = what;
            asked("count(" + what + ")", x -> x.count(each));
        }
        asked("fault(0)", x -> x.fault(0));
        asked("fault(1)", x -> x.fault(1));
        asked("head(7, 1)", x -> x.head(7, 1));
        asked("couple(7, 2)", x -> x.couple(7, 2));
        asked("state(39, 7)", x -> x.state(39, 7));
        asked("lifted(7, 2)", x -> x.lifted(7, 2));
        asked("gets(7, 2)", x -> x.gets(7, 2));
        asked("children(39)", x -> x.children(39));
        asked("without()", x -> x.without());
        asked("turn(1)", x -> x.turn(1));
        asked("met()", x -> x.met());
        asked("keep(7, 1)", x -> x.keep(7, 1));
        asked("sow(7, 0)", x -> x.sow(7, 0));
        asked("come(7, 0)", x -> x.come(7, 0));
        asked("never()", x -> x.never());
        asked("was(7, 0)", x -> x.was(7, 0));
        asked("was(7, 1)", x -> x.was(7, 1));
        asked("ask(7)", x -> x.ask(7));
        asked("chill(5, 9, 7, 0)", x -> x.chill(5, 9, 7, 0));
        asked("year(7, 0)", x -> x.year(7, 0));
        asked("get(2, 2, 2)", x -> x.get(2, 2, 2));
        asked("digest()", x -> x.digest());
    }
}
