/**
 * A parish of houses with a sash that will not shut: what is going on comes in as a draught.
 * The face looks at the numbers of a call; the classes inside it do the work.
 */
public final class NewsDraughts {
    public static final int BAD = -1, NO = -2, FULL = -3, NONE = -4;

    private static final String FIRST_TEXT =
        "g3,4;h1,1,3;h4,2,4;h6,3,5;h9,4,2;h10,0,0;h11,1,1;n0,1,0;n1,2,5;n2,3,8;w2;w3;w0;w1;";

    private static final int MOST_LETTERS = 200;
    private static final int MOST_NUMBERS = 3;
    private static final int MOST_HOUSES = 16;
    private static final int MOST_NEWS = 5;
    private static final int MOST_WINDS = 8;
    private static final int MOST_SEEN = 6;
    private static final int MOST_UNDONE = 8;
    private static final int MOST_KEPT = 2;
    private static final int MOST_STUFFED = 3;
    private static final int WIDEST = 6;
    private static final int IN_THE_END = 48;

    private static final int GOSSIP = 1, DEAF = 2, HUMMING = 3, PROUD = 4;
    private static final int DEBT = 2;
    private static final int ALL_SIDES = 0, UP = 1, RIGHT = 2, DOWN = 3, LEFT = 4;

    /** Stands for no house where a house is named: the document's 16. */
    private static final int NOBODY = 16;

    private final Sheet sheet;
    private final Reader reader;
    private final Parish draft;
    private final Parish parish;
    private final Standing now;
    private final Pile undone;
    private final Pile kept;
    private final Draught draught;
    private final Outlook outlook;
    private final Openings ways;
    private final Chances chances;
    private final Sightings sightings;

    public NewsDraughts() {
        sheet = new Sheet();
        reader = new Reader(sheet);
        draft = new Parish();
        parish = new Parish();
        now = new Standing();
        undone = new Pile(MOST_UNDONE);
        kept = new Pile(MOST_KEPT);
        draught = new Draught(parish, now);
        outlook = new Outlook(parish, now, draught);
        ways = new Openings(parish, now, draught);
        chances = new Chances(parish, draught);
        sightings = new Sightings(parish, draught);
        for (int i = 0; i < FIRST_TEXT.length(); i++) sheet.add(FIRST_TEXT.charAt(i));
        layText();
        sheet.clear();
    }

    // ---- parishes

    public int write(int letter) {
        if (!within(letter, 32, 126)) return BAD;
        return sheet.add(letter) ? sheet.length() : FULL;
    }

    public int wipe() {
        int was = sheet.length();
        sheet.clear();
        return was;
    }

    public int fault() {
        return reader.readInto(draft);
    }

    public int lay() {
        return layText() ? parish.houses() : NO;
    }

    public int house(int h, int what) {
        if (!parish.hasHouse(h)) return BAD;
        switch (what) {
            case 0: return parish.kindOf(h);
            case 1: return now.sashOf(h);
            case 2: return now.knownIn(h);
            default: return BAD;
        }
    }

    public int news(int n, int what) {
        if (!parish.hasNews(n)) return BAD;
        switch (what) {
            case 0: return parish.newsKindOf(n);
            case 1: return parish.weightOf(n);
            case 2: return parish.beginningOf(n);
            case 3: return Integer.bitCount(now.whoKnows(n));
            default: return BAD;
        }
    }

    public int wind(int s) {
        if (!within(s, 0, 99)) return BAD;
        return parish.windOf(now.stepsGone() + s);
    }

    // ---- steps

    public int step(int n) {
        if (!within(n, 1, 24)) return BAD;
        undone.push(now);
        for (int i = 0; i < parish.newsTold(); i++) {
            draught.pick(i);
            now.setWhoKnows(i, draught.along(draught.whoKnows(), 0, n));
        }
        now.goOn(n);
        return now.stepsGone();
    }

    public int open(int h, int o) {
        if (!parish.hasHouse(h) || !isWidth(o)) return BAD;
        int was = now.sashOf(h);
        undone.push(now);
        now.setSash(h, o);
        return was;
    }

    public int tell(int h, int n) {
        if (!parish.hasHouse(h) || !parish.hasNews(n)) return BAD;
        int know = now.whoKnows(n);
        if (holds(know, h)) return NO;
        undone.push(now);
        now.setWhoKnows(n, know | bit(h));
        return Integer.bitCount(know | bit(h));
    }

    public int undo() {
        return undone.popInto(now) ? undone.size() : NO;
    }

    // ---- what comes

    public int behind(int n, int h) {
        if (!within(n, 0, IN_THE_END) || !parish.hasHouse(h)) return BAD;
        return outlook.knownBehind(n, h);
    }

    public int when(int h, int n) {
        if (!parish.hasHouse(h) || !parish.hasNews(n)) return BAD;
        return outlook.firstHeard(h, n);
    }

    public int last(int n, int what) {
        if (!parish.hasNews(n) || !within(what, 0, 1)) return BAD;
        int house = outlook.latestHouse(n);
        if (house == NONE) return NONE;
        return what == 0 ? house : outlook.firstHeard(house, n);
    }

    public int cut(int h, int n, int what) {
        if (!parish.hasHouse(h) || !parish.hasNews(n) || !within(what, 0, 1)) return BAD;
        int stuffed = outlook.fewestStuffed(h, n);
        if (stuffed == NONE) return NONE;
        return what == 0 ? Integer.bitCount(stuffed) : stuffed;
    }

    public int openings(int n, int steps, int know, int not, int k) {
        if (!parish.hasNews(n) || !within(steps, 1, 12) || !within(k, 0, 2)) return BAD;
        if (!parish.hasHouses(know) || !parish.hasHouses(not) || (know & not) != 0) return BAD;
        ways.pose(n, steps, know, not);
        if (!ways.isFoundByNone() && !ways.isFoundByOne()) ways.findByTwo();
        return ways.answer(k);
    }

    public int bears(int h, int v) {
        if (!parish.hasHouse(h) || !within(v, 0, 20)) return BAD;
        return outlook.widestBorne(h, v);
    }

    public int quarrel(int h, int n, int steps, int what) {
        if (!parish.hasHouse(h) || !parish.hasNews(n)) return BAD;
        if (!within(steps, 1, 12) || !within(what, 0, 1)) return BAD;
        int opened = outlook.bestToOpen(h, n, steps);
        if (what == 1) return opened;
        return outlook.hearsInSpite(h, n, steps, opened) ? 1 : 0;
    }

    // ---- what was seen

    public int see(int h, int n, int t, boolean knows) {
        if (!parish.hasHouse(h) || !parish.hasNews(n) || !within(t, 0, 30)) return BAD;
        return sightings.add(h, n, t, knows) ? sightings.size() : FULL;
    }

    public int forget() {
        int were = sightings.size();
        sightings.clear();
        return were;
    }

    public int began(int n) {
        return parish.hasNews(n) ? sightings.beginnings(n) : BAD;
    }

    public int blew() {
        return sightings.nextWinds();
    }

    // ---- gusts, years

    public int gusts(int h, int n, int steps, int part) {
        if (!parish.hasHouse(h) || !parish.hasNews(n)) return BAD;
        if (!within(steps, 0, 4) || !within(part, 0, 1)) return BAD;
        return chances.inLowestTerms(chances.gustsThatReach(h, n, steps), steps, part);
    }

    public int year(int z, int n, int what) {
        if (!within(z, 0, 9999) || !within(n, 1, 60) || !within(what, 0, 1)) return BAD;
        chances.runYear(z, n);
        return what == 0 ? chances.housesThatKnow() : chances.timesHeard();
    }

    public int keep() {
        if (kept.isFull()) return FULL;
        kept.push(now);
        return kept.size();
    }

    public int back() {
        if (!kept.popInto(now)) return NO;
        undone.clear();
        return kept.size();
    }

    public int count(int what) {
        switch (what) {
            case 0: return parish.houses();
            case 1: return parish.rows();
            case 2: return parish.newsTold();
            case 3: return parish.windsInTurn();
            case 4: return now.stepsGone();
            case 5: return Integer.bitCount(now.whoKnowsAny());
            case 6: return sightings.size();
            case 7: return undone.size();
            case 8: return kept.size();
            case 9: return sheet.length();
            default: return BAD;
        }
    }

    /** The text is read twice, so that a faulty one leaves the parish that is laid as it is. */
    private boolean layText() {
        if (reader.readInto(draft) != NONE || draft.newsTold() == 0) return false;
        reader.readInto(parish);
        now.begin(parish);
        undone.clear();
        kept.clear();
        sightings.clear();
        return true;
    }

    private static boolean within(int x, int low, int high) {
        return x >= low && x <= high;
    }

    private static boolean isWidth(int o) {
        return within(o, 0, WIDEST);
    }

    private static int bit(int i) {
        return i >= 0 && i < MOST_HOUSES ? 1 << i : 0;
    }

    private static boolean holds(int set, int i) {
        return (set & bit(i)) != 0;
    }

    /** Every row is read here and written by put, so that no index is used that was not looked at. */
    private static int at(int[] row, int i) {
        return row != null && i >= 0 && i < row.length ? row[i] : 0;
    }

    private static void put(int[] row, int i, int value) {
        if (row != null && i >= 0 && i < row.length) row[i] = value;
    }

    private static void fill(int[] row, int value) {
        for (int i = 0; row != null && i < row.length; i++) row[i] = value;
    }

    private static void copy(int[] from, int[] to) {
        for (int i = 0; to != null && i < to.length; i++) to[i] = at(from, i);
    }

    /** The text as it is written, letter by letter. */
    private static final class Sheet {
        private final int[] letters = new int[MOST_LETTERS];
        private int length = 0;

        boolean add(int letter) {
            if (length >= MOST_LETTERS) return false;
            put(letters, length, letter);
            length++;
            return true;
        }

        void clear() {
            length = 0;
        }

        int length() {
            return length;
        }

        /** 0, which no item holds, behind the end. */
        int letterAt(int place) {
            return place < length ? at(letters, place) : 0;
        }
    }

    /** Reads the items of a text, one behind the other, into a parish. */
    private static final class Reader {
        private final Sheet sheet;
        private final int[] numbers = new int[MOST_NUMBERS];
        private int place = 0;

        Reader(Sheet sheet) {
            this.sheet = sheet;
        }

        /** Where the first faulty item begins, or NONE; what stands behind a fault is not read. */
        int readInto(Parish parish) {
            parish.clear();
            place = 0;
            for (int items = 0; items < MOST_LETTERS && place < sheet.length(); items++) {
                int start = place;
                place++;
                int told = readNumbers();
                if (told == 0 || !parish.take(sheet.letterAt(start), told, numbers)) return start;
            }
            return NONE;
        }

        /** How many numbers stand ahead of the ; or 0 if they are not written as they have to be. */
        private int readNumbers() {
            for (int i = 0; i < MOST_NUMBERS; i++) {
                int number = readNumber();
                if (number < 0) return 0;
                put(numbers, i, number);
                int letter = sheet.letterAt(place);
                place++;
                if (letter == ';') return i + 1;
                if (letter != ',') return 0;
            }
            return 0;
        }

        private int readNumber() {
            int first = sheet.letterAt(place);
            if (!isFigure(first)) return -1;
            place++;
            int second = sheet.letterAt(place);
            if (!isFigure(second)) return first - '0';
            place++;
            return 10 * (first - '0') + second - '0';
        }

        private static boolean isFigure(int letter) {
            return within(letter, '0', '9');
        }
    }

    /** What a text tells: houses, news and winds. */
    private static final class Parish {
        private final int[] kinds = new int[MOST_HOUSES];
        private final int[] sashes = new int[MOST_HOUSES];
        private final int[] newsKinds = new int[MOST_NEWS];
        private final int[] weights = new int[MOST_NEWS];
        private final int[] beginnings = new int[MOST_NEWS];
        private final int[] winds = new int[MOST_WINDS];
        private int rows = 0;
        private int columns = 0;
        private int firstColumn = 0;
        private int lastColumn = 0;
        private int newsTold = 0;
        private int windsTold = 0;
        private boolean gridsAlone = true;

        void clear() {
            fill(kinds, 0);
            fill(sashes, 2);
            fill(winds, ALL_SIDES);
            newsTold = 0;
            windsTold = 0;
            gridsAlone = true;
            takeGrid(3, 4);
        }

        /** Takes one item; false if it may not stand there. */
        boolean take(int letter, int told, int[] numbers) {
            int a = at(numbers, 0);
            int b = at(numbers, 1);
            int c = at(numbers, 2);
            if (letter == 'g') return told == 2 && gridsAlone && takeGrid(a, b);
            gridsAlone = false;
            switch (letter) {
                case 'h': return told == 3 && takeHouse(a, b, c);
                case 'n': return told == 3 && takeNews(a, b, c);
                case 'w': return told == 1 && takeWind(a);
                default: return false;
            }
        }

        private boolean takeGrid(int inAll, int wide) {
            if (!within(inAll, 1, 4) || !within(wide, 1, 4)) return false;
            rows = inAll;
            columns = wide;
            firstColumn = 0;
            for (int row = 0; row < rows; row++) firstColumn |= bit(row * columns);
            lastColumn = firstColumn << (columns - 1);
            return true;
        }

        private boolean takeHouse(int h, int kind, int width) {
            if (!hasHouse(h) || kind > PROUD || !isWidth(width)) return false;
            put(kinds, h, kind);
            put(sashes, h, width);
            return true;
        }

        private boolean takeNews(int kind, int weight, int h) {
            if (kind > DEBT || !within(weight, 1, 4) || !hasHouse(h)) return false;
            if (newsTold >= MOST_NEWS) return false;
            put(newsKinds, newsTold, kind);
            put(weights, newsTold, weight);
            put(beginnings, newsTold, h);
            newsTold++;
            return true;
        }

        private boolean takeWind(int wind) {
            if (wind > LEFT || windsTold >= MOST_WINDS) return false;
            put(winds, windsTold, wind);
            windsTold++;
            return true;
        }

        int rows() {
            return rows;
        }

        int columns() {
            return columns;
        }

        /** Nothing is blown left out of these houses. */
        int firstColumn() {
            return firstColumn;
        }

        /** Nothing is blown right out of these houses. */
        int lastColumn() {
            return lastColumn;
        }

        int houses() {
            return rows * columns;
        }

        int allHouses() {
            return (1 << houses()) - 1;
        }

        boolean hasHouse(int h) {
            return h >= 0 && h < houses();
        }

        boolean hasHouses(int set) {
            return within(set, 0, allHouses());
        }

        int kindOf(int h) {
            return at(kinds, h);
        }

        int sashOf(int h) {
            return at(sashes, h);
        }

        int newsTold() {
            return newsTold;
        }

        boolean hasNews(int n) {
            return n >= 0 && n < newsTold;
        }

        int newsKindOf(int n) {
            return at(newsKinds, n);
        }

        int weightOf(int n) {
            return at(weights, n);
        }

        int beginningOf(int n) {
            return at(beginnings, n);
        }

        /** Without winds the row holds the one from all sides, which is then the only one. */
        int windsInTurn() {
            return windsTold == 0 ? 1 : windsTold;
        }

        int windOf(int step) {
            int turn = windsInTurn();
            return turn > 0 ? at(winds, Math.floorMod(step, turn)) : ALL_SIDES;
        }
    }

    /** All that steps, opening and telling change. */
    private static final class Standing {
        private final int[] sashes = new int[MOST_HOUSES];
        private final int[] whoKnows = new int[MOST_NEWS];
        private int stepsGone = 0;

        void begin(Parish parish) {
            for (int h = 0; h < MOST_HOUSES; h++) put(sashes, h, parish.sashOf(h));
            for (int n = 0; n < MOST_NEWS; n++) {
                put(whoKnows, n, parish.hasNews(n) ? bit(parish.beginningOf(n)) : 0);
            }
            stepsGone = 0;
        }

        void copyOf(Standing other) {
            copy(other.sashes, sashes);
            copy(other.whoKnows, whoKnows);
            stepsGone = other.stepsGone;
        }

        int sashOf(int h) {
            return at(sashes, h);
        }

        void setSash(int h, int o) {
            put(sashes, h, o);
        }

        int whoKnows(int n) {
            return at(whoKnows, n);
        }

        void setWhoKnows(int n, int set) {
            put(whoKnows, n, set);
        }

        int whoKnowsAny() {
            int any = 0;
            for (int n = 0; n < MOST_NEWS; n++) any |= whoKnows(n);
            return any;
        }

        int knownIn(int h) {
            int known = 0;
            for (int n = 0; n < MOST_NEWS; n++) {
                if (holds(whoKnows(n), h)) known |= bit(n);
            }
            return known;
        }

        int stepsGone() {
            return stepsGone;
        }

        void goOn(int steps) {
            stepsGone += steps;
        }
    }

    /** Standings one upon the other; a full pile loses its lowest. All are made once and used again. */
    private static final class Pile {
        private final Standing[] places;
        private int lowest = 0;
        private int size = 0;

        Pile(int most) {
            places = new Standing[most < 1 ? 1 : most];
            for (int i = 0; i < places.length; i++) places[i] = new Standing();
        }

        void push(Standing standing) {
            Standing place = placeOf(size);
            if (place == null) return;
            place.copyOf(standing);
            if (isFull()) lowest++;
            else size++;
        }

        boolean popInto(Standing standing) {
            if (size == 0) return false;
            Standing place = placeOf(size - 1);
            if (place == null) return false;
            standing.copyOf(place);
            size--;
            return true;
        }

        void clear() {
            size = 0;
        }

        int size() {
            return size;
        }

        boolean isFull() {
            return size == places.length;
        }

        /** Counted from the lowest, round behind the end, so that nothing is moved when a full pile loses it. */
        private Standing placeOf(int height) {
            if (places.length == 0) return null;
            int i = Math.floorMod(lowest + height, places.length);
            return i >= 0 && i < places.length ? places[i] : null;
        }
    }

    /** How one piece of news goes on from how it stands now, by sashes that may be tried otherwise. */
    private static final class Draught {
        private final Parish parish;
        private final Standing now;
        private final int[] sashes = new int[MOST_HOUSES];
        private final int[] needed = new int[MOST_HOUSES];
        private int whoKnows = 0;
        private int gossips = 0;
        private int talkers = 0;
        private int openToGossips = 0;
        private int openToTalkers = 0;
        private int columns = 0;
        private int firstColumn = 0;
        private int lastColumn = 0;

        Draught(Parish parish, Standing now) {
            this.parish = parish;
            this.now = now;
        }

        /** Ahead of every question: all that was tried is as it stands again. */
        void pick(int n) {
            boolean debt = parish.newsKindOf(n) == DEBT;
            whoKnows = now.whoKnows(n);
            gossips = 0;
            talkers = 0;
            openToGossips = 0;
            openToTalkers = 0;
            columns = parish.columns();
            firstColumn = parish.firstColumn();
            lastColumn = parish.lastColumn();
            for (int h = 0; h < parish.houses(); h++) {
                int kind = parish.kindOf(h);
                boolean silent = kind == HUMMING || kind == PROUD && debt;
                if (kind == GOSSIP) gossips |= bit(h);
                else if (!silent) talkers |= bit(h);
                put(needed, h, kind == DEAF ? parish.weightOf(n) + 1 : parish.weightOf(n));
                reopen(h, now.sashOf(h));
            }
        }

        void reopen(int h, int o) {
            put(sashes, h, o);
            openToTalkers = letsInFromTalkers(h, o) ? openToTalkers | bit(h) : openToTalkers & ~bit(h);
            openToGossips = letsInFromGossips(h, o) ? openToGossips | bit(h) : openToGossips & ~bit(h);
        }

        /** Whether a width is another thing for the picked news than the one below it. */
        boolean isAnother(int h, int o) {
            return o < 1 || letsInFromTalkers(h, o) != letsInFromTalkers(h, o - 1)
                || letsInFromGossips(h, o) != letsInFromGossips(h, o - 1);
        }

        private boolean letsInFromTalkers(int h, int o) {
            return o > 0 && o >= at(needed, h);
        }

        private boolean letsInFromGossips(int h, int o) {
            return o > 0 && o >= at(needed, h) - 1;
        }

        void stuff(int set) {
            for (int h = 0; h < parish.houses(); h++) {
                if (holds(set, h)) reopen(h, 0);
            }
        }

        int sashOf(int h) {
            return at(sashes, h);
        }

        int whoKnows() {
            return whoKnows;
        }

        boolean hears(int h, int steps) {
            return holds(along(whoKnows, 0, steps), h);
        }

        /**
         * Who knows behind the steps from the one to the other, counted from now on.
         * If nobody hears while all the winds blow once, nobody does later on.
         */
        int along(int know, int from, int to) {
            int turn = parish.windsInTurn();
            int set = know;
            int still = 0;
            for (int s = from; s < to && still < turn; s++) {
                int next = onward(set, parish.windOf(now.stepsGone() + s));
                still = next == set ? still + 1 : 0;
                set = next;
            }
            return set;
        }

        /** What is blown up or down out of the parish comes to no house, as none there is open. */
        int onward(int know, int wind) {
            int byGossip = know & gossips;
            int byTalker = know & talkers;
            int next = know;
            if (wind == UP || wind == ALL_SIDES) {
                next |= (byGossip >>> columns) & openToGossips;
                next |= (byTalker >>> columns) & openToTalkers;
            }
            if (wind == RIGHT || wind == ALL_SIDES) {
                next |= ((byGossip & ~lastColumn) << 1) & openToGossips;
                next |= ((byTalker & ~lastColumn) << 1) & openToTalkers;
            }
            if (wind == DOWN || wind == ALL_SIDES) {
                next |= (byGossip << columns) & openToGossips;
                next |= (byTalker << columns) & openToTalkers;
            }
            if (wind == LEFT || wind == ALL_SIDES) {
                next |= ((byGossip & ~firstColumn) >>> 1) & openToGossips;
                next |= ((byTalker & ~firstColumn) >>> 1) & openToTalkers;
            }
            return next;
        }
    }

    /** What comes, if nobody or somebody does something about it now. */
    private static final class Outlook {
        private final Parish parish;
        private final Standing now;
        private final Draught draught;

        Outlook(Parish parish, Standing now, Draught draught) {
            this.parish = parish;
            this.now = now;
            this.draught = draught;
        }

        int knownBehind(int steps, int h) {
            int known = 0;
            for (int n = 0; n < parish.newsTold(); n++) {
                draught.pick(n);
                if (draught.hears(h, steps)) known |= bit(n);
            }
            return known;
        }

        int firstHeard(int h, int n) {
            draught.pick(n);
            int know = draught.whoKnows();
            for (int s = 0; s <= IN_THE_END; s++) {
                if (holds(know, h)) return s;
                know = draught.along(know, s, s + 1);
            }
            return NONE;
        }

        int latestHouse(int n) {
            int latest = NONE;
            int longest = 0;
            for (int h = 0; h < parish.houses(); h++) {
                int heard = firstHeard(h, n);
                if (heard > 0 && heard >= longest) {
                    latest = h;
                    longest = heard;
                }
            }
            return latest;
        }

        /** Sets come in the order of their bits, and only fewer houses are better: so the lowest stays. */
        int fewestStuffed(int h, int n) {
            if (holds(now.whoKnows(n), h)) return NONE;
            int best = NONE;
            int fewest = MOST_STUFFED + 1;
            int all = parish.allHouses();
            for (int set = 0; set <= all; set++) {
                if (Integer.bitCount(set) >= fewest || holds(set, h)) continue;
                draught.pick(n);
                draught.stuff(set);
                if (draught.hears(h, IN_THE_END)) continue;
                best = set;
                fewest = Integer.bitCount(set);
            }
            return best;
        }

        int widestBorne(int h, int v) {
            for (int o = WIDEST; o >= 0; o--) {
                if (burden(h, o) <= v) return o;
            }
            return NONE;
        }

        private int burden(int h, int o) {
            int sum = 0;
            for (int n = 0; n < parish.newsTold(); n++) {
                draught.pick(n);
                draught.reopen(h, o);
                if (draught.hears(h, IN_THE_END)) sum += parish.weightOf(n);
            }
            return sum;
        }

        /** To open none is best if nothing is better, also where nothing helps. */
        int bestToOpen(int h, int n, int steps) {
            if (hearsInSpite(h, n, steps, NOBODY)) return NOBODY;
            for (int first = 0; first < parish.houses(); first++) {
                if (hearsInSpite(h, n, steps, first)) return first;
            }
            return NOBODY;
        }

        boolean hearsInSpite(int h, int n, int steps, int first) {
            draught.pick(n);
            if (parish.hasHouse(first)) draught.reopen(first, Math.min(WIDEST, now.sashOf(first) + 1));
            if (!draught.hears(h, steps)) return false;
            for (int second = 0; second < parish.houses(); second++) {
                int was = draught.sashOf(second);
                draught.reopen(second, Math.max(0, was - 1));
                boolean hears = draught.hears(h, steps);
                draught.reopen(second, was);
                if (!hears) return false;
            }
            return true;
        }
    }

    /**
     * The fewest houses opened now, by which those told know and others do not.
     * Widths that are no other thing than the one below are left out, for that one comes first.
     */
    private static final class Openings {
        private final Parish parish;
        private final Standing now;
        private final Draught draught;
        private int steps = 0;
        private int shallKnow = 0;
        private int shallNot = 0;
        private int opened = NONE;
        private int first = NONE;
        private int second = NONE;

        Openings(Parish parish, Standing now, Draught draught) {
            this.parish = parish;
            this.now = now;
            this.draught = draught;
        }

        void pose(int n, int inSteps, int know, int not) {
            steps = inSteps;
            shallKnow = know;
            shallNot = not;
            found(NONE, NONE, NONE);
            draught.pick(n);
        }

        int answer(int k) {
            if (k == 1) return first;
            return k == 2 ? second : opened;
        }

        private void found(int houses, int one, int other) {
            opened = houses;
            first = one;
            second = other;
        }

        private boolean isSo(int know) {
            return (know & shallKnow) == shallKnow && (know & shallNot) == 0;
        }

        boolean isFoundByNone() {
            if (!isSo(draught.along(draught.whoKnows(), 0, steps))) return false;
            found(0, NONE, NONE);
            return true;
        }

        boolean isFoundByOne() {
            for (int h = 0; h < parish.houses(); h++) {
                int o = fittingWidth(h);
                if (o != NONE) {
                    found(1, 10 * h + o, NONE);
                    return true;
                }
            }
            return false;
        }

        void findByTwo() {
            for (int low = 0; low < parish.houses(); low++) {
                for (int o = 0; o <= WIDEST; o++) {
                    if (!draught.isAnother(low, o)) continue;
                    draught.reopen(low, o);
                    if (isFoundWith(low, o)) return;
                }
                draught.reopen(low, now.sashOf(low));
            }
        }

        private boolean isFoundWith(int low, int o) {
            for (int high = low + 1; high < parish.houses(); high++) {
                int width = fittingWidth(high);
                if (width != NONE) {
                    found(2, 10 * low + o, 10 * high + width);
                    return true;
                }
            }
            return false;
        }

        /** By how much this house, too, has to be opened; it stands as it did behind the search. */
        private int fittingWidth(int h) {
            int fitting = NONE;
            for (int o = 0; o <= WIDEST && fitting == NONE; o++) {
                if (!draught.isAnother(h, o)) continue;
                draught.reopen(h, o);
                if (isSo(draught.along(draught.whoKnows(), 0, steps))) fitting = o;
            }
            draught.reopen(h, now.sashOf(h));
            return fitting;
        }
    }

    /** Winds by chance and years by draws. */
    private static final class Chances {
        private final Parish parish;
        private final Draught draught;
        private int housesThatKnow = 0;
        private int timesHeard = 0;

        Chances(Parish parish, Draught draught) {
            this.parish = parish;
            this.draught = draught;
        }

        /** Of all the ways in which the winds may come, two bits of a way for each step. */
        int gustsThatReach(int h, int n, int steps) {
            int reached = 0;
            draught.pick(n);
            for (int way = 0; way < waysOf(steps); way++) {
                int know = draught.whoKnows();
                for (int s = 0; s < steps; s++) know = draught.onward(know, UP + (way >> (2 * s) & 3));
                if (holds(know, h)) reached++;
            }
            return reached;
        }

        int inLowestTerms(int reached, int steps, int part) {
            int above = reached;
            int below = waysOf(steps);
            for (int i = 0; i < 2 * steps && above % 2 == 0; i++) {
                above /= 2;
                below /= 2;
            }
            return part == 0 ? above : below;
        }

        private static int waysOf(int steps) {
            return 1 << (2 * steps);
        }

        /** News do not touch one another, so each goes through the whole year by itself. */
        void runYear(int z, int steps) {
            int any = 0;
            timesHeard = 0;
            for (int n = 0; n < parish.newsTold(); n++) {
                draught.pick(n);
                int know = draught.whoKnows();
                for (int k = 0; k < steps; k++) {
                    openByDraw(draw(z, k));
                    know = draught.along(know, k, k + 1);
                }
                any |= know;
                timesHeard += Integer.bitCount(know) - Integer.bitCount(draught.whoKnows());
            }
            housesThatKnow = Integer.bitCount(any);
        }

        int housesThatKnow() {
            return housesThatKnow;
        }

        int timesHeard() {
            return timesHeard;
        }

        private void openByDraw(int draw) {
            int houses = parish.houses();
            if (houses > 0) draught.reopen(draw % houses, draw / 16 % 7);
        }

        private static int draw(int z, int k) {
            long x = 7919L * z + 6151L * k + 1;
            return (int) (x * x % 65521 / 2);
        }
    }

    /** What is seen of who knows what, and from what it could have come. */
    private static final class Sightings {
        private final Parish parish;
        private final Draught draught;
        private final int[] houses = new int[MOST_SEEN];
        private final int[] news = new int[MOST_SEEN];
        private final int[] times = new int[MOST_SEEN];
        private final int[] knows = new int[MOST_SEEN];
        private int size = 0;

        Sightings(Parish parish, Draught draught) {
            this.parish = parish;
            this.draught = draught;
        }

        boolean add(int h, int n, int t, boolean known) {
            if (size >= MOST_SEEN) return false;
            put(houses, size, h);
            put(news, size, n);
            put(times, size, t);
            put(knows, size, known ? 1 : 0);
            size++;
            return true;
        }

        void clear() {
            size = 0;
        }

        int size() {
            return size;
        }

        int beginnings(int n) {
            int set = 0;
            for (int h = 0; h < parish.houses(); h++) {
                if (allSoFrom(h, n)) set |= bit(h);
            }
            return set;
        }

        private boolean allSoFrom(int h, int n) {
            draught.pick(n);
            for (int i = 0; i < size; i++) {
                if (at(news, i) == n && !isSo(i, draught.along(bit(h), 0, at(times, i)))) return false;
            }
            return true;
        }

        int nextWinds() {
            int set = 0;
            for (int wind = ALL_SIDES; wind <= LEFT; wind++) {
                if (allSoBy(wind)) set |= bit(wind);
            }
            return set;
        }

        private boolean allSoBy(int wind) {
            for (int i = 0; i < size; i++) {
                draught.pick(at(news, i));
                int know = draught.whoKnows();
                if (at(times, i) > 0) know = draught.along(draught.onward(know, wind), 1, at(times, i));
                if (!isSo(i, know)) return false;
            }
            return true;
        }

        private boolean isSo(int i, int know) {
            return holds(know, at(houses, i)) == (at(knows, i) == 1);
        }
    }
}
