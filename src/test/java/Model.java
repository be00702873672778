import java.math.BigInteger;
import java.util.ArrayList;
import java.util.Collection;
import java.util.HashSet;
import java.util.List;
import java.util.Set;
import java.util.TreeSet;
import java.util.regex.Matcher;
import java.util.regex.Pattern;

/**
 * The document a second time, told as plainly as can be: a field is lived through day by day, and
 * every plan is tried out. It shares no line with the program and has no care for speed.
 */
final class Model {
    static final int NONE = -1, BAD = -2, NOT = -3, FULL = -4;
    private static final int[] ROOM = {31, 39};
    private static final Pattern[] FORM = {
        Pattern.compile("([srp][0-2][0-9](;[srp][0-2][0-9]){0,7})?"),
        Pattern.compile("([srpa][0-2][0-9][1-9](;[srpa][0-2][0-9][1-9]){0,7})?")};

    private final StringBuilder[] texts = {new StringBuilder(), new StringBuilder()};
    private final List<Integer> frosts = new ArrayList<>();
    private final List<Integer> wets = new ArrayList<>();
    private final List<int[]> rabbits = new ArrayList<>();
    private final List<int[]> sights = new ArrayList<>();
    private final Object[] sheets = new Object[4];
    private int finding = 0;

    private static final class Head {
        char sort;
        int due;
        int ripe;
        int state = 0;
        int lifter = NONE;
        int liftedOn = NONE;
    }

    private static final class Couple {
        char want;
        int from;
        int stay;
        int head = NONE;
        int day = NONE;
        int children = 0;

        boolean comesOn(int d) {
            return d >= from && d < from + stay;
        }

        boolean likes(char sort) {
            return want == 'a' || want == sort;
        }
    }

    /** One year: made from what there is, changed by whoever asks, then lived. */
    private static final class Year {
        final List<Head> heads = new ArrayList<>();
        final List<Couple> couples = new ArrayList<>();
        Collection<Integer> frosts;
        List<Integer> wets;
        List<int[]> rabbits;
        boolean nobodyLifts = false;
        final int[][] states = new int[40][8];
        final int[] children = new int[40];
        int turnWho = NONE;
        int turnDay = NONE;

        Year live() {
            for (Head h : heads) h.ripe = h.due;
            for (int d = 0; d < 40; d++) {
                if (frosts.contains(d)) frost(d);
                ripenAndBolt(d);
                for (int[] rabbit : rabbits) {
                    if (rabbit[0] != d || rabbit[1] >= heads.size()) continue;
                    Head h = heads.get(rabbit[1]);
                    if (h.state != 2) h.state = 3;
                }
                if (!nobodyLifts) dawn(d);
                for (int i = 0; i < heads.size(); i++) states[d][i] = heads.get(i).state;
                for (Couple c : couples) children[d] += c.children;
            }
            return this;
        }

        private void frost(int d) {
            for (Head h : heads) {
                if (h.state != 0 || d >= h.ripe) continue;
                if (h.sort == 's') h.ripe++;
                if (h.sort == 'p') h.state = 3;
            }
        }

        private void ripenAndBolt(int d) {
            for (Head h : heads) {
                int span = h.sort == 's' ? 3 : h.sort == 'r' ? 5 : 1;
                if (h.state == 0 && d == h.ripe) h.state = 1;
                if (h.state == 1 && d == h.ripe + span) h.state = 4;
            }
        }

        private void dawn(int d) {
            for (int c = 0; c < couples.size(); c++) {
                Couple couple = couples.get(c);
                if (!couple.comesOn(d) || couple.head != NONE) continue;
                for (int i = 0; i < heads.size(); i++) {
                    Head h = heads.get(i);
                    if (h.state != 1 || !couple.likes(h.sort)) continue;
                    noteTurn(d, c, h.sort);
                    h.state = 2;
                    h.lifter = c;
                    h.liftedOn = d;
                    couple.head = i;
                    couple.day = d;
                    couple.children = wets.contains(d) ? 2 : 1;
                    break;
                }
            }
        }

        private void noteTurn(int d, int who, char sort) {
            if (turnWho != NONE) return;
            for (Couple other : couples) {
                if (other.comesOn(d) && other.head == NONE && other.likes(sort)
                        && other.from < couples.get(who).from) {
                    turnWho = who;
                    turnDay = d;
                }
            }
        }

        int without() {
            int n = 0;
            for (Couple c : couples) n += c.head == NONE ? 1 : 0;
            return n;
        }
    }

    private List<String> parts(int text) {
        List<String> parts = new ArrayList<>();
        if (fault(text) == NONE && texts[text].length() > 0) {
            for (String part : texts[text].toString().split(";")) parts.add(part);
        }
        return parts;
    }

    private Year plan() {
        Year year = new Year();
        for (String part : parts(0)) {
            Head h = new Head();
            h.sort = part.charAt(0);
            h.due = Integer.parseInt(part.substring(1, 3));
            year.heads.add(h);
        }
        for (String part : parts(1)) {
            Couple c = new Couple();
            c.want = part.charAt(0);
            c.from = Integer.parseInt(part.substring(1, 3));
            c.stay = Integer.parseInt(part.substring(3));
            year.couples.add(c);
        }
        year.frosts = frosts;
        year.wets = wets;
        year.rabbits = rabbits;
        return year;
    }

    private Year planDue(int head, int day) {
        Year year = plan();
        year.heads.get(head).due = day;
        return year.live();
    }

    private Year planWithoutRabbits(Set<Integer> off) {
        Year year = plan();
        year.rabbits = new ArrayList<>();
        for (int i = 0; i < rabbits.size(); i++) {
            if (!off.contains(i)) year.rabbits.add(rabbits.get(i));
        }
        return year.live();
    }

    private boolean agrees(Year year) {
        for (int[] sight : sights) {
            if (sight[0] >= year.couples.size()) return false;
            int got = year.couples.get(sight[0]).head;
            if (sight[1] == 8 ? got != NONE : got != sight[1]) return false;
        }
        return true;
    }

    private static boolean in(int x, int least, int most) {
        return x >= least && x <= most;
    }

    int type(int text, int b) {
        if (!in(text, 0, 1) || !in(b, 0, 255)) return BAD;
        if (texts[text].length() == ROOM[text]) return FULL;
        return texts[text].append((char) b).length();
    }

    int wipe(int text) {
        if (!in(text, 0, 1)) return BAD;
        int had = texts[text].length();
        texts[text].setLength(0);
        return had;
    }

    int undo(int text) {
        if (!in(text, 0, 1)) return BAD;
        int had = texts[text].length();
        if (had == 0) return NOT;
        texts[text].setLength(had - 1);
        return had - 1;
    }

    int fault(int text) {
        if (!in(text, 0, 1)) return BAD;
        String all = texts[text].toString();
        for (int i = 0; i < all.length(); i++) {
            Matcher m = FORM[text].matcher(all.substring(0, i + 1));
            if (!m.matches() && !m.hitEnd()) return i;
        }
        return FORM[text].matcher(all).matches() ? NONE : all.length();
    }

    int head(int head, int what) {
        if (!in(head, 0, parts(0).size() - 1) || !in(what, 0, 1)) return BAD;
        String part = parts(0).get(head);
        return what == 0 ? "srp".indexOf(part.charAt(0)) : Integer.parseInt(part.substring(1));
    }

    int couple(int couple, int what) {
        if (!in(couple, 0, parts(1).size() - 1) || !in(what, 0, 2)) return BAD;
        String part = parts(1).get(couple);
        if (what == 0) return "srpa".indexOf(part.charAt(0));
        return Integer.parseInt(what == 1 ? part.substring(1, 3) : part.substring(3));
    }

    int weather(int what, int day) {
        if (!in(what, 0, 1) || !in(day, 0, what == 0 ? 29 : 39)) return BAD;
        List<Integer> days = what == 0 ? frosts : wets;
        if (days.size() == 6) return FULL;
        days.add(day);
        return days.size();
    }

    int rabbit(int day, int head) {
        if (!in(day, 0, 39) || !in(head, 0, 7)) return BAD;
        if (rabbits.size() == 8) return FULL;
        rabbits.add(new int[] {day, head});
        return rabbits.size();
    }

    int back(int what) {
        if (!in(what, 0, 2)) return BAD;
        List<?> list = what == 0 ? frosts : what == 1 ? wets : rabbits;
        if (list.isEmpty()) return NOT;
        list.remove(list.size() - 1);
        return list.size();
    }

    int read(int s) {
        if (!in(s, 0, 3)) return BAD;
        if (sheets[s] == null) return finding(1);
        int n = 0;
        while (2 * n + 1 < length(sheets[s]) && rabbit(item(sheets[s], 2 * n), item(sheets[s], 2 * n + 1)) > 0) n++;
        return n;
    }

    int state(int day, int head) {
        if (!in(day, 0, 39) || !in(head, 0, parts(0).size() - 1)) return BAD;
        return plan().live().states[day][head];
    }

    int lifted(int head, int what) {
        if (!in(head, 0, parts(0).size() - 1) || !in(what, 0, 2)) return BAD;
        if (what == 0) {
            Year year = plan();
            year.rabbits = new ArrayList<>();
            year.nobodyLifts = true;
            Head h = year.live().heads.get(head);
            return h.state == 3 ? NONE : h.ripe;
        }
        Head h = plan().live().heads.get(head);
        return what == 1 ? h.lifter : h.liftedOn;
    }

    int gets(int couple, int what) {
        if (!in(couple, 0, parts(1).size() - 1) || !in(what, 0, 2)) return BAD;
        Couple c = plan().live().couples.get(couple);
        return what == 0 ? c.head : what == 1 ? c.day : c.children;
    }

    int children(int day) {
        return in(day, 0, 39) ? plan().live().children[day] : BAD;
    }

    int without() {
        Year year = plan().live();
        int bits = 0;
        for (int c = 0; c < year.couples.size(); c++) {
            if (year.couples.get(c).head == NONE) bits |= 1 << c;
        }
        return bits;
    }

    int turn(int what) {
        if (!in(what, 0, 1)) return BAD;
        Year year = plan().live();
        return what == 0 ? year.turnWho : year.turnDay;
    }

    int met() {
        Year year = plan();
        year.nobodyLifts = true;
        return mostFrom(year.live(), 0, new HashSet<>());
    }

    private int mostFrom(Year year, int couple, Set<Integer> gone) {
        if (couple == year.couples.size()) return 0;
        int most = mostFrom(year, couple + 1, gone);
        for (int h = 0; h < year.heads.size(); h++) {
            if (gone.contains(h) || !mightGet(year, year.couples.get(couple), h)) continue;
            gone.add(h);
            most = Math.max(most, 1 + mostFrom(year, couple + 1, gone));
            gone.remove(h);
        }
        return most;
    }

    private static boolean mightGet(Year year, Couple c, int head) {
        if (!c.likes(year.heads.get(head).sort)) return false;
        for (int d = 0; d < 40; d++) {
            if (c.comesOn(d) && year.states[d][head] == 1) return true;
        }
        return false;
    }

    int keep(int couple, int i) {
        if (!in(couple, 0, parts(1).size() - 1) || !in(i, -1, 1)) return BAD;
        List<List<Integer>> rows = new ArrayList<>();
        rows.add(List.of());
        for (int a = 0; a < rabbits.size(); a++) rows.add(List.of(a));
        for (int a = 0; a < rabbits.size(); a++) {
            for (int b = a + 1; b < rabbits.size(); b++) rows.add(List.of(a, b));
        }
        for (List<Integer> row : rows) {
            if (planWithoutRabbits(new HashSet<>(row)).couples.get(couple).head == NONE) continue;
            if (i == NONE) return row.size();
            return i < row.size() ? row.get(i) : NONE;
        }
        return NONE;
    }

    int sow(int head, int what) {
        if (!in(head, 0, parts(0).size() - 1) || !in(what, 0, 1)) return BAD;
        int best = 0;
        for (int d = 1; d < 30; d++) {
            if (planDue(head, d).without() < planDue(head, best).without()) best = d;
        }
        return what == 0 ? best : planDue(head, best).without();
    }

    int come(int couple, int what) {
        if (!in(couple, 0, parts(1).size() - 1) || !in(what, 0, 1)) return BAD;
        int best = NONE;
        int soonest = 99;
        for (int d = 29; d >= 0; d--) {
            Year year = plan();
            year.couples.get(couple).from = d;
            int day = year.live().couples.get(couple).day;
            if (day != NONE && day <= soonest) {
                soonest = day;
                best = d;
            }
        }
        return what == 0 || best == NONE ? best : soonest;
    }

    int seen(int couple, int head) {
        if (!in(couple, 0, 7) || !in(head, 0, 8)) return BAD;
        if (sights.size() == 8) return FULL;
        sights.add(new int[] {couple, head});
        return sights.size();
    }

    int forget() {
        int had = sights.size();
        sights.clear();
        return had;
    }

    int never() {
        int bits = 0;
        for (int i = 0; i < rabbits.size(); i++) {
            if (agrees(planWithoutRabbits(Set.of(i)))) bits |= 1 << i;
        }
        return bits;
    }

    int was(int head, int what) {
        if (!in(head, 0, parts(0).size() - 1) || !in(what, 0, 1)) return BAD;
        int bits = 0;
        for (int k = 0; k < (what == 0 ? 3 : 30); k++) {
            Year year = plan();
            if (what == 0) year.heads.get(head).sort = "srp".charAt(k);
            else year.heads.get(head).due = k;
            if (agrees(year.live())) bits |= 1 << k;
        }
        return bits;
    }

    int ask(int head) {
        if (!in(head, 0, parts(0).size() - 1)) return BAD;
        List<Year> years = new ArrayList<>();
        for (int d = 0; d < 30; d++) {
            Year year = planDue(head, d);
            if (agrees(year)) years.add(year);
        }
        int best = NONE;
        int least = 99;
        for (int c = 0; c < parts(1).size(); c++) {
            int greatest = 0;
            for (int h = -1; h < 8; h++) {
                int n = 0;
                for (Year year : years) n += year.couples.get(c).head == h ? 1 : 0;
                greatest = Math.max(greatest, n);
            }
            if (greatest < least) {
                least = greatest;
                best = c;
            }
        }
        return best;
    }

    long chill(int c, int day, int couple, int what) {
        if (!in(c, 0, 16) || !in(day, 0, 9) || !in(couple, 0, parts(1).size() - 1) || !in(what, 0, 1)) {
            return Long.MIN_VALUE + 2;
        }
        BigInteger above = BigInteger.ZERO;
        for (int k = 0; k < 1 << (day + 1); k++) {
            Set<Integer> days = new TreeSet<>();
            BigInteger weight = BigInteger.ONE;
            for (int d = 0; d <= day; d++) {
                boolean cold = (k & 1 << d) != 0;
                if (cold) days.add(d);
                weight = weight.multiply(BigInteger.valueOf(cold ? c : 16 - c));
            }
            if (weight.signum() == 0) continue;
            Year year = plan();
            year.frosts = days;
            if (year.live().couples.get(couple).head != NONE) above = above.add(weight);
        }
        BigInteger below = BigInteger.valueOf(16).pow(day + 1);
        BigInteger common = above.gcd(below);
        return (what == 0 ? above : below).divide(common).longValueExact();
    }

    int year(int seed, int what) {
        if (!in(what, 0, 1)) return BAD;
        Year year = plan();
        BigInteger wrap = BigInteger.ONE.shiftLeft(32);
        BigInteger now = BigInteger.valueOf(seed);
        for (Head h : year.heads) {
            now = now.multiply(BigInteger.valueOf(1103515245)).add(BigInteger.valueOf(12345)).mod(wrap);
            h.due = now.shiftRight(16).intValueExact() % 30;
        }
        year.live();
        return what == 0 ? year.children[39] : year.without();
    }

    private int finding(int number) {
        finding = number;
        return -10 - number;
    }

    private static int length(Object row) {
        return java.lang.reflect.Array.getLength(row);
    }

    private static int item(Object row, int i) {
        return java.lang.reflect.Array.getInt(row, i);
    }

    private static int form(Object row) {
        return row instanceof byte[] ? 0 : row instanceof short[] ? 1 : 2;
    }

    private static void set(Object row, int i, int v) {
        if (row instanceof byte[] bytes) bytes[i] = (byte) v;
        if (row instanceof short[] shorts) shorts[i] = (short) v;
        if (row instanceof int[] ints) ints[i] = v;
    }

    int sheet(int s, int form, int n) {
        if (!in(s, 0, 3) || !in(form, 0, 2) || n > 60) return BAD;
        if (n < 0) return finding(5);
        sheets[s] = form == 0 ? new byte[n] : form == 1 ? new short[n] : (Object) new int[n];
        return n;
    }

    int lose(int s) {
        if (!in(s, 0, 3)) return BAD;
        if (sheets[s] == null) return finding(1);
        int had = length(sheets[s]);
        sheets[s] = null;
        return had;
    }

    int lay(int s, int form, int i, int v) {
        if (!in(s, 0, 3) || !in(form, 0, 2)) return BAD;
        if (sheets[s] == null) return finding(1);
        if (form(sheets[s]) != form) return finding(3);
        if (!in(i, 0, length(sheets[s]) - 1)) return finding(2);
        set(sheets[s], i, v);
        return 1;
    }

    int get(int s, int form, int i) {
        int least = Integer.MIN_VALUE;
        if (!in(s, 0, 3) || !in(form, 0, 2)) return least;
        if (sheets[s] == null) return least + 0 * finding(1);
        if (form(sheets[s]) != form) return least + 0 * finding(3);
        if (!in(i, 0, length(sheets[s]) - 1)) return least + 0 * finding(2);
        return item(sheets[s], i);
    }

    int copy(int s, int i, int t, int j, int n) {
        if (!in(s, 0, 3) || !in(t, 0, 3)) return BAD;
        if (sheets[s] == null || sheets[t] == null) return finding(1);
        if (form(sheets[s]) != form(sheets[t])) return finding(4);
        if (i < 0 || j < 0 || n < 0) return finding(2);
        if ((long) i + n > length(sheets[s]) || (long) j + n > length(sheets[t])) return finding(2);
        int[] were = new int[n];
        for (int k = 0; k < n; k++) were[k] = item(sheets[s], i + k);
        for (int k = 0; k < n; k++) set(sheets[t], j + k, were[k]);
        return 1;
    }

    int write(int day, int s) {
        if (!in(day, 0, 39) || !in(s, 0, 3)) return BAD;
        if (sheets[s] == null) return finding(1);
        int n = 0;
        while (n < length(sheets[s]) && n < parts(0).size()) {
            set(sheets[s], n, state(day, n));
            n++;
        }
        return n;
    }

    int count(int what) {
        int[] counts = {parts(0).size(), parts(1).size(), texts[0].length(), texts[1].length(),
            frosts.size() + wets.size(), rabbits.size(), children(39), sights.size(), finding};
        return in(what, 0, 8) ? counts[what] : BAD;
    }

    long digest() {
        List<Long> all = new ArrayList<>();
        for (int k = 0; k < 8; k++) all.add((long) count(k));
        for (int k = 0; k < 2; k++) all.add((long) fault(k));
        for (int h = 0; h < parts(0).size(); h++) {
            int[] answers = {head(h, 0), head(h, 1), state(9, h), state(39, h), lifted(h, 0), lifted(h, 1),
                lifted(h, 2), sow(h, 0), sow(h, 1), was(h, 0), was(h, 1), ask(h)};
            for (int x : answers) all.add((long) x);
        }
        for (int c = 0; c < parts(1).size(); c++) {
            int[] answers = {couple(c, 0), couple(c, 1), couple(c, 2), gets(c, 0), gets(c, 1), gets(c, 2),
                keep(c, NONE), keep(c, 0), come(c, 0), come(c, 1)};
            for (int x : answers) all.add((long) x);
            all.add(chill(5, 7, c, 0));
            all.add(chill(5, 7, c, 1));
        }
        int[] answers = {children(9), without(), turn(0), turn(1), met(), never(), year(7, 0), year(7, 1)};
        for (int x : answers) all.add((long) x);
        long h = 17;
        for (long x : all) h = 31 * h + x;
        return h;
    }
}
