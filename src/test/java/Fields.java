/** What the tests of boundary cases share: fields made of texts, frosts and rabbits. */
final class Fields {
    static final int NONE = -1, BAD = -2, NOT = -3, FULL = -4;
    static final int NULL = -11, INDEX = -12, CAST = -13, STORE = -14, SIZE = -15;
    static final int LEAST = Integer.MIN_VALUE, MOST = Integer.MAX_VALUE;
    static final long LONG_BAD = Long.MIN_VALUE + 2;
    static final int[] ROOM = {31, 39};

    private Fields() {
    }

    static CabbageCradles of(String heads, String couples) {
        CabbageCradles x = new CabbageCradles();
        type(x, 0, heads);
        type(x, 1, couples);
        return x;
    }

    static void type(CabbageCradles x, int text, String all) {
        for (int i = 0; i < all.length(); i++) x.type(text, all.charAt(i));
    }

    static CabbageCradles frozen(CabbageCradles x, int... days) {
        for (int day : days) x.weather(0, day);
        return x;
    }

    static CabbageCradles wet(CabbageCradles x, int... days) {
        for (int day : days) x.weather(1, day);
        return x;
    }

    /** Rabbits that come to one head, on each of the days. */
    static CabbageCradles gnawed(CabbageCradles x, int head, int... days) {
        for (int day : days) x.rabbit(day, head);
        return x;
    }

    /** A day as the texts tell it. */
    static String day(int day) {
        return "" + day / 10 + day % 10;
    }

    static String times(int n, String part) {
        return String.join(";", java.util.Collections.nCopies(n, part));
    }

    /** A text of 0 to 8 parts, by chance, with days below a told one. */
    static String drawn(java.util.Random random, int text, int lastDay) {
        StringBuilder parts = new StringBuilder();
        for (int n = random.nextInt(9); n > 0; n--) {
            if (parts.length() > 0) parts.append(';');
            parts.append(text == 0 ? "srp".charAt(random.nextInt(3)) : "srpaa".charAt(random.nextInt(5)));
            parts.append(day(random.nextInt(lastDay)));
            if (text == 1) parts.append(1 + random.nextInt(9));
        }
        return parts.toString();
    }

    static void row(CabbageCradles x, int s, int form, int... items) {
        x.sheet(s, form, items.length);
        for (int i = 0; i < items.length; i++) x.lay(s, form, i, items[i]);
    }
}
