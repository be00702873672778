import java.util.Arrays;

/** Heads, couples, frosts, wet days and rabbits of one field, and who lifts what at which dawn. */
public final class CabbageCradles {
    public static final int NONE = -1, BAD = -2, NOT = -3, FULL = -4;

    private static final int MOST = 8;
    private static final int MOST_WEATHER = 6;
    private static final int DAYS = 40;
    private static final int EARLY_DAYS = 30;
    private static final int CHILL_DAYS = 10;
    private static final int SIXTEENTHS = 16;
    private static final int SHEETS = 4;
    private static final int FORMS = 3;
    private static final int MOST_ITEMS = 60;
    private static final int LEAST_INT = 0x80000000;
    private static final long LEAST_LONG = 0x8000000000000000L;

    private static final int SAVOY = 0, POINTED = 2, ANY = 3;
    private static final int SORTS = 3;
    private static final int[] RIPE_DAYS = {3, 5, 1};

    /** Up to two of eight rabbits, as bits: the fewest first, of as many the least row first. */
    private static final int[] KEPT_OFF = {
        0, 1, 2, 4, 8, 16, 32, 64, 128,
        3, 5, 9, 17, 33, 65, 129, 6, 10, 18, 34, 66, 130, 12, 20, 36, 68, 132,
        24, 40, 72, 136, 48, 80, 144, 96, 160, 192
    };

    private static final int GREEN = 0, RIPE = 1, LIFTED = 2, LOST = 3, BOLTED = 4;

    private static final int NO_SHEET = 1, NO_ITEM = 2, OTHER_FORM = 3, UNLIKE_FORMS = 4, NO_SIZE = 5;

    private final Text[] texts;
    private final Row frosts;
    private final Row wets;
    private final Row rabbits;
    private final Row sights;
    private final Sheet[] sheets;
    private final Field field;
    private final Walk walk;
    private final Chances chances;
    private final int[][] tallies;
    private int finding;

    public CabbageCradles() {
        texts = new Text[] {new Text("srp", 2), new Text("srpa", 3)};
        frosts = new Row(MOST_WEATHER);
        wets = new Row(MOST_WEATHER);
        rabbits = new Row(MOST);
        sights = new Row(MOST);
        sheets = new Sheet[] {new Sheet(), new Sheet(), new Sheet(), new Sheet()};
        field = new Field();
        walk = new Walk();
        chances = new Chances();
        tallies = new int[MOST][MOST + 1];
        finding = 0;
    }

    // ---- heads, couples, frosts, rabbits

    public int type(int text, int b) {
        if (isOff(text, 2) || isOff(b, 256)) return BAD;
        chances.forgetAll();
        return texts[text].append(b);
    }

    public int wipe(int text) {
        if (isOff(text, 2)) return BAD;
        chances.forgetAll();
        return texts[text].empty();
    }

    public int undo(int text) {
        if (isOff(text, 2)) return BAD;
        chances.forgetAll();
        return texts[text].dropLast();
    }

    public int fault(int text) {
        if (isOff(text, 2)) return BAD;
        return texts[text].fault;
    }

    public int head(int head, int what) {
        if (isNoHead(head) || isOff(what, 2)) return BAD;
        return what == 0 ? texts[0].kinds[head] : texts[0].days[head];
    }

    public int couple(int couple, int what) {
        if (isNoCouple(couple) || isOff(what, 3)) return BAD;
        if (what == 0) return texts[1].kinds[couple];
        return what == 1 ? texts[1].days[couple] : texts[1].lengths[couple];
    }

    public int weather(int what, int day) {
        if (isOff(what, 2) || isOff(day, what == 0 ? EARLY_DAYS : DAYS)) return BAD;
        return what == 0 ? frosts.add(day) : wets.add(day);
    }

    public int rabbit(int day, int head) {
        if (isOff(day, DAYS) || isOff(head, MOST)) return BAD;
        chances.forgetAll();
        return rabbits.add(day * MOST + head);
    }

    public int back(int what) {
        if (isOff(what, 3)) return BAD;
        if (what == 0) return frosts.dropLast();
        if (what == 1) return wets.dropLast();
        chances.forgetAll();
        return rabbits.dropLast();
    }

    public int read(int s) {
        if (isOff(s, SHEETS)) return BAD;
        Sheet sheet = sheets[s];
        if (sheet.isLost()) return found(NO_SHEET);
        int read = 0;
        for (int i = 0; i + 1 < sheet.size; i += 2) {
            if (rabbit(sheet.itemAt(i), sheet.itemAt(i + 1)) < 0) return read;
            read++;
        }
        return read;
    }

    // ---- days

    public int state(int day, int head) {
        if (isOff(day, DAYS) || isNoHead(head)) return BAD;
        walkAsItIs();
        return walk.stateOf(field, day, head);
    }

    public int lifted(int head, int what) {
        if (isNoHead(head) || isOff(what, 3)) return BAD;
        walkAsItIs();
        if (what == 0) return walk.ripe[head];
        int couple = walk.lifterOf(head);
        return what == 1 || couple == NONE ? couple : walk.dayGot[couple];
    }

    public int gets(int couple, int what) {
        if (isNoCouple(couple) || isOff(what, 3)) return BAD;
        walkAsItIs();
        if (what == 0) return walk.headGot[couple];
        return what == 1 ? walk.dayGot[couple] : childrenOf(couple);
    }

    public int children(int day) {
        if (isOff(day, DAYS)) return BAD;
        walkAsItIs();
        return childrenBehind(day);
    }

    public int without() {
        walkAsItIs();
        return ~walk.served & (1 << field.couples) - 1;
    }

    public int turn(int what) {
        if (isOff(what, 2)) return BAD;
        walkAsItIs();
        int who = walk.firstOutOfTurn(field);
        return what == 0 || who == NONE ? who : walk.dayGot[who];
    }

    // ---- plans

    /** By Hall: some couples can only go without if too few heads are good for all of them together. */
    public int met() {
        walkAsItIs();
        int most = field.couples;
        for (int group = 0; group < 1 << field.couples; group++) {
            int others = field.couples - Integer.bitCount(group);
            most = Math.min(most, others + Integer.bitCount(headsFor(group)));
        }
        return most;
    }

    public int keep(int couple, int i) {
        if (isNoCouple(couple) || i < NONE || i > 1) return BAD;
        layOut();
        int kept = fewestKeptOff(couple);
        if (kept == NONE) return NONE;
        if (i == NONE) return Integer.bitCount(kept);
        return i == 0 ? leastBit(kept) : leastBit(kept & kept - 1);
    }

    public int sow(int head, int what) {
        if (isNoHead(head) || isOff(what, 2)) return BAD;
        layOut();
        int best = NONE;
        int fewest = MOST + 1;
        for (int day = 0; day < EARLY_DAYS; day++) {
            field.dues[head] = day;
            walk.go(field);
            if (numberWithout() < fewest) {
                fewest = numberWithout();
                best = day;
            }
        }
        return what == 0 ? best : fewest;
    }

    public int come(int couple, int what) {
        if (isNoCouple(couple) || isOff(what, 2)) return BAD;
        layOut();
        int best = NONE;
        int soonest = NONE;
        for (int day = 0; day < EARLY_DAYS; day++) {
            field.froms[couple] = day;
            walk.go(field);
            int got = walk.dayGot[couple];
            if (got != NONE && (soonest == NONE || got < soonest)) {
                soonest = got;
                best = day;
            }
        }
        return what == 0 ? best : soonest;
    }

    // ---- seen, chills, years

    public int seen(int couple, int head) {
        if (isOff(couple, MOST) || isOff(head, MOST + 1)) return BAD;
        return sights.add(couple * (MOST + 1) + head);
    }

    public int forget() {
        return sights.clear();
    }

    public int never() {
        layOut();
        int bits = 0;
        for (int i = 0; i < rabbits.size; i++) {
            field.letRabbitsIn(rabbits, 1 << i);
            walk.go(field);
            if (isAsSeen()) bits |= 1 << i;
        }
        return bits;
    }

    public int was(int head, int what) {
        if (isNoHead(head) || isOff(what, 2)) return BAD;
        layOut();
        return what == 0 ? sortsAsSeen(head) : duesAsSeen(head);
    }

    public int ask(int head) {
        if (isNoHead(head)) return BAD;
        layOut();
        for (int c = 0; c < MOST; c++) Arrays.fill(tallies[c], 0);
        for (int day = 0; day < EARLY_DAYS; day++) {
            field.dues[head] = day;
            walk.go(field);
            if (isAsSeen()) tallyWhoGotWhat();
        }
        return leastTallied();
    }

    public long chill(int c, int day, int couple, int what) {
        if (isOff(c, SIXTEENTHS + 1) || isOff(day, CHILL_DAYS)) return asLong(BAD);
        if (isNoCouple(couple) || isOff(what, 2)) return asLong(BAD);
        if (chances.lastDay != day) countChances(day);
        long above = chances.weightOf(couple, c);
        long below = 1L << 4 * (day + 1);
        // what is below is a power of two, so halving is all the lowering there is
        for (int i = 0; i < 4 * CHILL_DAYS && below > 1 && (above & 1) == 0; i++) {
            above >>= 1;
            below >>= 1;
        }
        return what == 0 ? above : below;
    }

    public int year(int seed, int what) {
        if (isOff(what, 2)) return BAD;
        layOut();
        int lot = seed;
        for (int h = 0; h < field.heads; h++) {
            lot = 1103515245 * lot + 12345;
            field.dues[h] = (lot >>> 16) % EARLY_DAYS;
        }
        walk.go(field);
        return what == 0 ? childrenBehind(DAYS - 1) : numberWithout();
    }

    // ---- sheets

    public int sheet(int s, int form, int n) {
        if (isOff(s, SHEETS) || isOff(form, FORMS) || n > MOST_ITEMS) return BAD;
        if (n < 0) return found(NO_SIZE);
        sheets[s].renew(form, n);
        return n;
    }

    public int lose(int s) {
        if (isOff(s, SHEETS)) return BAD;
        Sheet sheet = sheets[s];
        if (sheet.isLost()) return found(NO_SHEET);
        int had = sheet.size;
        sheet.size = NONE;
        return had;
    }

    public int lay(int s, int form, int i, int v) {
        if (isOff(s, SHEETS) || isOff(form, FORMS)) return BAD;
        int wrong = whatIsWrong(sheets[s], form, i);
        if (wrong != 0) return found(wrong);
        sheets[s].put(i, v);
        return 1;
    }

    public int get(int s, int form, int i) {
        if (isOff(s, SHEETS) || isOff(form, FORMS)) return LEAST_INT;
        int wrong = whatIsWrong(sheets[s], form, i);
        if (wrong == 0) return sheets[s].itemAt(i);
        found(wrong);
        return LEAST_INT;
    }

    public int copy(int s, int i, int t, int j, int n) {
        if (isOff(s, SHEETS) || isOff(t, SHEETS)) return BAD;
        Sheet source = sheets[s];
        Sheet target = sheets[t];
        if (source.isLost() || target.isLost()) return found(NO_SHEET);
        if (source.form != target.form) return found(UNLIKE_FORMS);
        if (!source.hasRun(i, n) || !target.hasRun(j, n)) return found(NO_ITEM);
        System.arraycopy(source.items, i, target.items, j, n);
        return 1;
    }

    public int write(int day, int s) {
        if (isOff(day, DAYS) || isOff(s, SHEETS)) return BAD;
        Sheet sheet = sheets[s];
        if (sheet.isLost()) return found(NO_SHEET);
        walkAsItIs();
        int written = Math.min(sheet.size, field.heads);
        for (int h = 0; h < written; h++) sheet.put(h, walk.stateOf(field, day, h));
        return written;
    }

    public int count(int what) {
        switch (what) {
            case 0: return texts[0].parts;
            case 1: return texts[1].parts;
            case 2: return texts[0].bytes.size;
            case 3: return texts[1].bytes.size;
            case 4: return frosts.size + wets.size;
            case 5: return rabbits.size;
            case 6: return children(DAYS - 1);
            case 7: return sights.size;
            case 8: return finding;
            default: return BAD;
        }
    }

    public long digest() {
        long h = 17;
        for (int what = 0; what < 8; what++) h = 31 * h + count(what);
        h = 31 * (31 * h + fault(0)) + fault(1);
        int heads = texts[0].parts;
        for (int i = 0; i < heads; i++) h = digestHead(h, i);
        int couples = texts[1].parts;
        for (int i = 0; i < couples; i++) h = digestCouple(h, i);
        h = 31 * (31 * h + children(9)) + without();
        h = 31 * (31 * h + turn(0)) + turn(1);
        h = 31 * (31 * h + met()) + never();
        return 31 * (31 * h + year(7, 0)) + year(7, 1);
    }

    private long digestHead(long before, int head) {
        long h = 31 * (31 * before + head(head, 0)) + head(head, 1);
        h = 31 * (31 * h + state(9, head)) + state(39, head);
        for (int what = 0; what < 3; what++) h = 31 * h + lifted(head, what);
        h = 31 * (31 * h + sow(head, 0)) + sow(head, 1);
        h = 31 * (31 * h + was(head, 0)) + was(head, 1);
        return 31 * h + ask(head);
    }

    private long digestCouple(long before, int couple) {
        long h = before;
        for (int what = 0; what < 3; what++) h = 31 * h + couple(couple, what);
        for (int what = 0; what < 3; what++) h = 31 * h + gets(couple, what);
        h = 31 * (31 * h + keep(couple, NONE)) + keep(couple, 0);
        h = 31 * (31 * h + come(couple, 0)) + come(couple, 1);
        return 31 * (31 * h + chill(5, 7, couple, 0)) + chill(5, 7, couple, 1);
    }

    // ---- what the calls share

    private static boolean isOff(int number, int end) {
        return number < 0 || number >= end;
    }

    private boolean isNoHead(int head) {
        return isOff(head, texts[0].parts);
    }

    private boolean isNoCouple(int couple) {
        return isOff(couple, texts[1].parts);
    }

    private static long asLong(int refusal) {
        return LEAST_LONG - refusal;
    }

    private int found(int number) {
        finding = number;
        return -10 - number;
    }

    private static int whatIsWrong(Sheet sheet, int form, int i) {
        if (sheet.isLost()) return NO_SHEET;
        if (sheet.form != form) return OTHER_FORM;
        return isOff(i, sheet.size) ? NO_ITEM : 0;
    }

    private static int leastBit(int bits) {
        for (int i = 0; i < MOST; i++) {
            if ((bits >> i & 1) != 0) return i;
        }
        return NONE;
    }

    /** Plans change the field that they walk, so every call lays it out anew. */
    private void layOut() {
        field.plant(texts[0]);
        field.invite(texts[1]);
        field.freeze(frosts);
        field.letRabbitsIn(rabbits, 0);
    }

    private void walkAsItIs() {
        layOut();
        walk.go(field);
    }

    private int childrenOf(int couple) {
        int day = walk.dayGot[couple];
        if (day == NONE) return 0;
        for (int i = 0; i < wets.size; i++) {
            if (wets.at(i) == day) return 2;
        }
        return 1;
    }

    private int childrenBehind(int day) {
        int sum = 0;
        for (int c = 0; c < field.couples; c++) {
            if (walk.dayGot[c] <= day) sum += childrenOf(c);
        }
        return sum;
    }

    private int numberWithout() {
        return field.couples - Integer.bitCount(walk.served);
    }

    private int headsFor(int group) {
        int heads = 0;
        for (int c = 0; c < field.couples; c++) {
            if ((group >> c & 1) != 0) heads |= walk.goodFor[c];
        }
        return heads;
    }

    private int fewestKeptOff(int couple) {
        for (int kept : KEPT_OFF) {
            if (kept >> rabbits.size != 0) continue;
            field.letRabbitsIn(rabbits, kept);
            walk.go(field);
            if (walk.dayGot[couple] != NONE) return kept;
        }
        return NONE;
    }

    private boolean isAsSeen() {
        for (int i = 0; i < sights.size; i++) {
            int couple = sights.at(i) / (MOST + 1);
            int head = sights.at(i) % (MOST + 1);
            if (isOff(couple, field.couples)) return false;
            if (walk.headGot[couple] != (head == MOST ? NONE : head)) return false;
        }
        return true;
    }

    private int sortsAsSeen(int head) {
        int bits = 0;
        for (int sort = 0; sort < SORTS; sort++) {
            field.sorts[head] = sort;
            walk.go(field);
            if (isAsSeen()) bits |= 1 << sort;
        }
        return bits;
    }

    private int duesAsSeen(int head) {
        int bits = 0;
        for (int day = 0; day < EARLY_DAYS; day++) {
            field.dues[head] = day;
            walk.go(field);
            if (isAsSeen()) bits |= 1 << day;
        }
        return bits;
    }

    private void tallyWhoGotWhat() {
        for (int c = 0; c < field.couples; c++) {
            int head = walk.headGot[c];
            tallies[c][head == NONE ? MOST : head]++;
        }
    }

    private int leastTallied() {
        int best = NONE;
        int least = EARLY_DAYS + 1;
        for (int c = 0; c < field.couples; c++) {
            int greatest = 0;
            for (int h = 0; h <= MOST; h++) greatest = Math.max(greatest, tallies[c][h]);
            if (greatest < least) {
                least = greatest;
                best = c;
            }
        }
        return best;
    }

    private void countChances(int lastDay) {
        layOut();
        chances.startFor(lastDay);
        for (int frosty = 0; frosty < 1 << lastDay + 1; frosty++) {
            field.frosts = frosty;
            walk.go(field);
            chances.addCase(Integer.bitCount(frosty), walk.served);
        }
    }

    /** Numbers in a row, as many as it has room for. */
    private static final class Row {
        final int[] items;
        int size;

        Row(int room) {
            items = new int[Math.max(room, 0)];
            size = 0;
        }

        int at(int i) {
            return i < 0 || i >= size ? NONE : items[i];
        }

        int add(int item) {
            if (size >= items.length) return FULL;
            items[size] = item;
            size++;
            return size;
        }

        int dropLast() {
            if (size == 0) return NOT;
            size--;
            return size;
        }

        int clear() {
            int had = size;
            size = 0;
            return had;
        }
    }

    /** Bytes that tell parts: a letter and some figures each, with ; between them. */
    private static final class Text {
        final Row bytes;
        final String letters;
        final int figures;
        final int[] kinds = new int[MOST];
        final int[] days = new int[MOST];
        final int[] lengths = new int[MOST];
        int parts = 0;
        int fault = NONE;

        /** There is room for just so many bytes that a ninth part cannot begin. */
        Text(String letters, int figures) {
            this.letters = letters;
            this.figures = figures;
            bytes = new Row(MOST * (figures + 2) - 1);
        }

        int append(int b) {
            int answer = bytes.add(b);
            parse();
            return answer;
        }

        int dropLast() {
            int answer = bytes.dropLast();
            parse();
            return answer;
        }

        int empty() {
            int answer = bytes.clear();
            parse();
            return answer;
        }

        private void parse() {
            fault = firstFault();
            parts = 0;
            int end = fault == NONE ? bytes.size : 0;
            for (int start = 0; start < end && parts < MOST; start += figures + 2) {
                kinds[parts] = letters.indexOf((char) bytes.at(start));
                days[parts] = 10 * figureAt(start + 1) + figureAt(start + 2);
                lengths[parts] = figures > 2 ? figureAt(start + 3) : 0;
                parts++;
            }
        }

        private int firstFault() {
            int place = 0;
            for (int i = 0; i < bytes.size; i++) {
                if (!fits(place, bytes.at(i))) return i;
                place = place > figures ? 0 : place + 1;
            }
            return bytes.size == 0 || place > figures ? NONE : bytes.size;
        }

        private boolean fits(int place, int b) {
            if (place == 0) return letters.indexOf((char) b) >= 0;
            if (place > figures) return b == ';';
            if (place == 1) return b >= '0' && b <= '2';
            return b >= (place == 2 ? '0' : '1') && b <= '9';
        }

        private int figureAt(int i) {
            return bytes.at(i) - '0';
        }
    }

    /** What stands in the field and what comes to it. */
    private static final class Field {
        final int[] sorts = new int[MOST];
        final int[] dues = new int[MOST];
        final int[] wants = new int[MOST];
        final int[] froms = new int[MOST];
        final int[] stays = new int[MOST];
        final int[] rabbitDays = new int[MOST];
        int heads;
        int couples;
        int frosts;

        void plant(Text text) {
            heads = text.parts;
            System.arraycopy(text.kinds, 0, sorts, 0, MOST);
            System.arraycopy(text.days, 0, dues, 0, MOST);
        }

        void invite(Text text) {
            couples = text.parts;
            System.arraycopy(text.kinds, 0, wants, 0, MOST);
            System.arraycopy(text.days, 0, froms, 0, MOST);
            System.arraycopy(text.lengths, 0, stays, 0, MOST);
        }

        void freeze(Row days) {
            frosts = 0;
            for (int i = 0; i < days.size; i++) frosts |= 1 << days.at(i);
        }

        /** Of each head only the first rabbit counts: behind it there is nothing left to lose. */
        void letRabbitsIn(Row rabbits, int keptOff) {
            Arrays.fill(rabbitDays, DAYS);
            for (int i = 0; i < rabbits.size; i++) {
                int head = rabbits.at(i) % MOST;
                if ((keptOff >> i & 1) != 0 || isOff(head, MOST)) continue;
                rabbitDays[head] = Math.min(rabbitDays[head], rabbits.at(i) / MOST);
            }
        }

        boolean comesOn(int couple, int day) {
            return froms[couple] <= day && day < froms[couple] + stays[couple];
        }

        boolean isWantedBy(int couple, int sort) {
            return wants[couple] == ANY || wants[couple] == sort;
        }

        /** The day on which a head is ripe first, by frosts alone; NONE: one of them took it. */
        int firstRipe(int head) {
            int ripe = dues[head];
            for (int day = 0; day < EARLY_DAYS && day < ripe && frosts >> day != 0; day++) {
                if ((frosts >> day & 1) == 0) continue;
                if (sorts[head] == POINTED) return NONE;
                if (sorts[head] == SAVOY) ripe++;
            }
            return ripe;
        }

        int firstFrost() {
            for (int day = 0; day < EARLY_DAYS; day++) {
                if ((frosts >> day & 1) != 0) return day;
            }
            return DAYS;
        }
    }

    /** What comes of a field, dawn by dawn. Heads and couples of a day are held as bits. */
    private static final class Walk {
        final int[] ripe = new int[MOST];
        final int[] bolted = new int[MOST];
        final int[] headGot = new int[MOST];
        final int[] dayGot = new int[MOST];
        final int[] goodFor = new int[MOST];
        final int[] ripeOn = new int[DAYS];
        final int[] comingOn = new int[DAYS];
        final int[] ofSort = new int[SORTS + 1];
        int taken;
        int served;

        void go(Field field) {
            clear();
            for (int h = 0; h < field.heads; h++) bringHead(field, h);
            for (int c = 0; c < field.couples; c++) bringCouple(field, c);
            for (int day = 0; day < DAYS; day++) {
                if ((ripeOn[day] & ~taken) != 0 && (comingOn[day] & ~served) != 0) dawn(field, day);
            }
        }

        private void clear() {
            Arrays.fill(ripe, NONE);
            Arrays.fill(bolted, NONE);
            Arrays.fill(headGot, NONE);
            Arrays.fill(dayGot, NONE);
            Arrays.fill(goodFor, 0);
            Arrays.fill(ripeOn, 0);
            Arrays.fill(comingOn, 0);
            Arrays.fill(ofSort, 0);
            taken = 0;
            served = 0;
        }

        private void bringHead(Field field, int head) {
            int sort = field.sorts[head];
            if (isOff(sort, SORTS)) return;
            ofSort[sort] |= 1 << head;
            ofSort[ANY] |= 1 << head;
            ripe[head] = field.firstRipe(head);
            if (ripe[head] == NONE) return;
            bolted[head] = ripe[head] + RIPE_DAYS[sort];
            int end = Math.min(bolted[head], field.rabbitDays[head]);
            for (int day = ripe[head]; day < end && day < DAYS; day++) ripeOn[day] |= 1 << head;
        }

        private void bringCouple(Field field, int couple) {
            int want = field.wants[couple];
            if (isOff(want, SORTS + 1) || field.froms[couple] < 0) return;
            int end = Math.min(field.froms[couple] + field.stays[couple], DAYS);
            for (int day = field.froms[couple]; day < end; day++) {
                comingOn[day] |= 1 << couple;
                goodFor[couple] |= ripeOn[day] & ofSort[want];
            }
        }

        private void dawn(Field field, int day) {
            for (int c = 0; c < field.couples; c++) {
                if ((comingOn[day] & ~served & 1 << c) == 0) continue;
                int head = leastBit(ripeOn[day] & ~taken & goodFor[c]);
                if (head == NONE) continue;
                taken |= 1 << head;
                served |= 1 << c;
                headGot[c] = head;
                dayGot[c] = day;
            }
        }

        int lifterOf(int head) {
            for (int c = 0; c < MOST; c++) {
                if (headGot[c] == head) return c;
            }
            return NONE;
        }

        int stateOf(Field field, int day, int head) {
            int couple = lifterOf(head);
            if (couple != NONE && dayGot[couple] <= day) return LIFTED;
            if (field.rabbitDays[head] <= day) return LOST;
            if (ripe[head] == NONE) return field.firstFrost() <= day ? LOST : GREEN;
            if (day < ripe[head]) return GREEN;
            return day < bolted[head] ? RIPE : BOLTED;
        }

        int firstOutOfTurn(Field field) {
            int first = NONE;
            for (int c = 0; c < field.couples; c++) {
                if (headGot[c] == NONE || !isOutOfTurn(field, c)) continue;
                if (first == NONE || dayGot[c] < dayGot[first]) first = c;
            }
            return first;
        }

        private boolean isOutOfTurn(Field field, int couple) {
            int sort = field.sorts[headGot[couple]];
            for (int other = 0; other < field.couples; other++) {
                if (field.froms[other] < field.froms[couple] && field.comesOn(other, dayGot[couple])
                        && field.isWantedBy(other, sort) && isStillWithout(other, couple)) {
                    return true;
                }
            }
            return false;
        }

        /** Whether the other has none at the moment at which the couple lifts its head. */
        private boolean isStillWithout(int other, int couple) {
            if (dayGot[other] == NONE || dayGot[other] > dayGot[couple]) return true;
            return dayGot[other] == dayGot[couple] && other > couple;
        }
    }

    /** In how many cases of so many frosts each couple is met, for frosts from day 0 to a last day. */
    private static final class Chances {
        final int[][] cases = new int[MOST][CHILL_DAYS + 1];
        int lastDay = NONE;

        void forgetAll() {
            lastDay = NONE;
        }

        void startFor(int day) {
            for (int c = 0; c < MOST; c++) Arrays.fill(cases[c], 0);
            lastDay = day;
        }

        void addCase(int frosts, int served) {
            for (int c = 0; c < MOST; c++) {
                if ((served >> c & 1) != 0) cases[c][frosts]++;
            }
        }

        long weightOf(int couple, int sixteenths) {
            long sum = 0;
            for (int frosts = 0; frosts <= lastDay + 1; frosts++) {
                long weight = cases[couple][frosts];
                for (int day = 0; day <= lastDay; day++) {
                    weight *= day < frosts ? sixteenths : SIXTEENTHS - sixteenths;
                }
                sum += weight;
            }
            return sum;
        }
    }

    /** A row of a form; without a size it is lost. Its items lie in ints, cut to what the form holds. */
    private static final class Sheet {
        final int[] items = new int[MOST_ITEMS];
        int form = 0;
        int size = NONE;

        boolean isLost() {
            return size < 0;
        }

        void renew(int form, int size) {
            Arrays.fill(items, 0);
            this.form = form;
            this.size = size;
        }

        int itemAt(int i) {
            return isOff(i, size) ? 0 : items[i];
        }

        void put(int i, int v) {
            if (isOff(i, size)) return;
            items[i] = form == 0 ? (byte) v : form == 1 ? (short) v : v;
        }

        boolean hasRun(int from, int n) {
            return from >= 0 && n >= 0 && n <= size - from;
        }
    }
}
