/** What the tests by hand have in common: parishes laid by a text, and a look at how they stand. */
abstract class Trial {
    static final int BAD = NewsDraughts.BAD, NO = NewsDraughts.NO;
    static final int FULL = NewsDraughts.FULL, NONE = NewsDraughts.NONE;
    static final Checks checks = new Checks();

    static void due(String call, long got, long want) {
        checks.due(call, got, want);
    }

    static void write(NewsDraughts x, String text) {
        for (int i = 0; i < text.length(); i++) x.write(text.charAt(i));
    }

    static NewsDraughts written(String text) {
        NewsDraughts x = new NewsDraughts();
        write(x, text);
        return x;
    }

    static NewsDraughts laid(String text) {
        NewsDraughts x = written(text);
        if (x.lay() < 1) due("lay of " + text, x.fault(), 1);
        return x;
    }

    static void rewrite(NewsDraughts x, String text) {
        x.wipe();
        write(x, text);
    }

    /** Letters until no more are taken. */
    static void fill(NewsDraughts x, char letter) {
        for (int left = 200 - x.count(9); left > 0; left--) x.write(letter);
    }

    /** Who knows the news, as bits by house. */
    static int whoKnows(NewsDraughts x, int n) {
        int set = 0;
        int houses = x.count(0);
        for (int h = 0; h < houses; h++) {
            if ((x.house(h, 2) >> n & 1) == 1) set |= 1 << h;
        }
        return set;
    }

    /** All that can be asked about how it stands now. */
    static String look(NewsDraughts x) {
        StringBuilder s = new StringBuilder();
        int houses = x.count(0), news = x.count(2);
        for (int what = 0; what <= 9; what++) s.append(x.count(what)).append(what < 9 ? "," : " houses ");
        for (int h = 0; h < houses; h++) {
            for (int what = 0; what <= 2; what++) s.append(x.house(h, what)).append(what < 2 ? "," : " ");
        }
        s.append("news ");
        for (int n = 0; n < news; n++) {
            for (int what = 0; what <= 3; what++) s.append(x.news(n, what)).append(what < 3 ? "," : " ");
            s.append("began ").append(x.began(n)).append(' ');
        }
        s.append("winds");
        for (int i = 0; i < 8; i++) s.append(' ').append(x.wind(i));
        return s.append(" blew ").append(x.blew()).append(" fault ").append(x.fault()).toString();
    }

    private static String brief(NewsDraughts x) {
        StringBuilder s = new StringBuilder(" | ").append(x.count(4));
        int houses = x.count(0);
        for (int h = 0; h < houses; h++) s.append(' ').append(x.house(h, 1)).append(',').append(x.house(h, 2));
        return s.toString();
    }

    /** How it stands now and, one behind the other, all that can be undone and all that is kept. */
    static String unwound(NewsDraughts x) {
        StringBuilder s = new StringBuilder(look(x));
        for (int left = x.undo(); left >= 0; left = x.undo()) s.append(" undo ").append(left).append(brief(x));
        for (int left = x.back(); left >= 0; left = x.back()) s.append(" back ").append(left).append(brief(x));
        return s.toString();
    }

    static void same(String what, String got, String want) {
        due(what, got.equals(want) ? 1 : 0, 1);
        if (!got.equals(want)) System.out.println("  is  " + got + "\n  due " + want);
    }
}
