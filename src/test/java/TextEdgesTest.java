/** Section 1 of the document and promises 1 to 8, sentence by sentence: the last that is taken, the first that is not. */
public final class TextEdgesTest extends Trial {
    private static final String FIVE_NEWS = "n0,1,0;n0,1,0;n1,2,1;n2,4,2;n0,1,0;";
    private static final String EIGHT_WINDS = "w1;w2;w3;w4;w0;w4;w3;w2;";

    public static void main(String[] args) {
        textOf200();
        textOf200IsLaid();
        textThatIsFullWithinAnItem();
        lettersOfAscii();
        wipeOfAnyLength();
        oneOrTwoFigures();
        figuresAlone();
        partedAndEnded();
        asManyNumbersAsTold();
        itemLetters();
        itemsBehindOneAnother();
        rowsAndColumns();
        gridOfEachSize();
        gridWithout();
        noOtherItemAheadOfTheGrid();
        housesPlainAndOpenBy2();
        houseNumbers();
        houseKindsAndWidths();
        theLastOneOfEachHouse();
        newsNumbers();
        fiveNews();
        windNumbers();
        eightWinds();
        windsInTurn();
        windsFarOn();
        theFirstFault();
        layNeedsNews();
        layWithFaultChangesNothing();
        layBeginsAnew();
        atFirst();
        whatOfHouses();
        whatOfNews();
        checks.end();
    }

    /** The item stands behind a good one and ahead of news: if it is good it is laid, else its place is told. */
    private static void item(String item, boolean good) {
        String ahead = "g4,4;";
        NewsDraughts x = written(ahead + item + "n0,1,0;");
        due("fault of " + item, x.fault(), good ? NONE : ahead.length());
        int was = x.count(0);
        int laid = x.lay();
        due("lay of " + item, laid < 0 ? laid : 1, good ? 1 : NO);
        if (!good) due("no other houses by " + item, x.count(0), was);
    }

    private static void good(String... items) {
        for (String item : items) item(item, true);
    }

    private static void faulty(String... items) {
        for (String item : items) item(item, false);
    }

    private static void faultAt(String text, int place) {
        due("fault of " + text, written(text).fault(), place);
    }

    private static String times(String text, int n) {
        StringBuilder s = new StringBuilder();
        for (int i = 0; i < n; i++) s.append(text);
        return s.toString();
    }

    // ---- "A TEXT is letters (200 at most)", write and wipe

    private static void textOf200() {
        NewsDraughts x = new NewsDraughts();
        for (int i = 1; i <= 200; i++) due("letter " + i, x.write('a'), i);
        due("letter 201", x.write('a'), FULL);
        due("letter 201 again", x.write('b'), FULL);
        due("letters behind the refused one", x.count(9), 200);
        due("wipe of 200", x.wipe(), 200);
        due("letters behind wipe", x.count(9), 0);
        for (int i = 1; i <= 200; i++) due("letter " + i + " behind wipe", x.write('g'), i);
        due("letter 201 behind wipe", x.write('g'), FULL);
    }

    private static void textOf200IsLaid() {
        NewsDraughts x = written(times("g1,1;", 37) + "n0,1,0;" + "n00,2,0");
        due("all but the last letter", x.count(9), 199);
        due("its last item does not end", x.fault(), 192);
        due("the 200th ends it", x.write(';'), 200);
        due("fault of 200", x.fault(), NONE);
        due("one more", x.write('x'), FULL);
        due("it was not taken", x.fault(), NONE);
        due("lay of 200", x.lay(), 1);
        due("its last item is laid", x.news(1, 1), 2);
        due("the text of 200 stays", x.count(9), 200);
    }

    private static void textThatIsFullWithinAnItem() {
        NewsDraughts x = written("n0,1,0;" + times("w0;", 8) + times("h0,0,2;", 24) + "w");
        due("full within an item", x.count(9), 200);
        due("what would end it is refused", x.write(';'), FULL);
        due("fault of the item at the end", x.fault(), 199);
        due("it is not laid", x.lay(), NO);
    }

    private static void lettersOfAscii() {
        NewsDraughts x = new NewsDraughts();
        for (int letter = 32; letter <= 126; letter++) due("letter of ASCII " + letter, x.write(letter), letter - 31);
        int[] others = {31, 127, 0, 10, 128, 255, 256 + 'g', 65536 + 'g', -1, -'g', Integer.MIN_VALUE, Integer.MAX_VALUE};
        for (int other : others) due("no letter: " + other, x.write(other), BAD);
        due("no other letter came", x.count(9), 95);
        fill(x, 'g');
        for (int other : others) due("no letter, and full: " + other, x.write(other), BAD);
    }

    private static void wipeOfAnyLength() {
        NewsDraughts x = new NewsDraughts();
        due("wipe of none", x.wipe(), 0);
        x.write(' ');
        due("wipe of one", x.wipe(), 1);
        due("wipe of none again", x.wipe(), 0);
        due("the next one is the first", x.write('g'), 1);
        due("nothing of the old one is read", x.fault(), 0);
    }

    // ---- "each a letter, then numbers (one or two figures) parted by , and a ; behind the last one"

    private static void oneOrTwoFigures() {
        good("g4,4;", "g04,4;", "g4,04;", "g04,04;");
        faulty("g,4;", "g4,;", "g,;", "g;", "g004,4;", "g4,004;");
        good("h1,1,1;", "h01,1,1;", "h1,01,1;", "h1,1,01;", "h01,01,01;", "h15,1,1;");
        faulty("h,1,1;", "h1,,1;", "h1,1,;", "h,,;", "h;", "h001,1,1;", "h1,001,1;", "h1,1,001;");
        good("n1,1,1;", "n01,1,1;", "n1,01,1;", "n1,1,01;", "n01,01,01;", "n1,1,15;");
        faulty("n,1,1;", "n1,,1;", "n1,1,;", "n,,;", "n;", "n001,1,1;", "n1,001,1;", "n1,1,001;");
        good("w1;", "w01;", "w0;", "w00;");
        faulty("w;", "w001;", "w000;", "w0000;");
        NewsDraughts x = laid("g02,03;h05,03,06;n02,04,05;w03;");
        due("two figures: houses", x.count(0), 6);
        due("two figures: kind", x.house(5, 0), 3);
        due("two figures: width", x.house(5, 1), 6);
        due("two figures: heavy", x.news(0, 1), 4);
        due("two figures: begin", x.news(0, 2), 5);
        due("two figures: wind", x.wind(0), 3);
    }

    /** The letters beside 0 and 9 in ASCII are / and : */
    private static void figuresAlone() {
        good("h0,0,0;", "h09,0,0;");
        faulty("h/,0,0;", "h:,0,0;", "h1/,0,0;", "h0:,0,0;", "h1:,0,0;", "h/1,0,0;", "h:1,0,0;");
        faulty("h0,/,0;", "h0,:,0;", "h0,0,/;", "h0,0,:;", "h0,0/,0;", "h0,0:,0;", "h0,0,0/;", "h0,0,0:;");
        faulty("n0,1,1/;", "n0,1,0:;", "n/,1,0;", "n0,:,0;", "n0,1/,0;", "w/;", "w:;", "w0/;", "w0:;", "w1/;");
        faulty("h-1,0,0;", "h+1,0,0;", "h 1,0,0;", "h1 ,0,0;", "h1, 0,0;", "h1,0,0 ;", "h 1,0,0;", "hx,0,0;", "h1x,0,0;");
        faulty("w-0;", "w 0;", "w0 ;", "wx;", "w0x;");
    }

    private static void partedAndEnded() {
        faulty("h1;1;1;", "h1.1,1;", "h1,1.1;", "h1+1,1;", "h1-1,1;", "h1 1,1;", "h1,1 1;", "h11,1;", "h1,,1,1;", "h,1,1,1;");
        faulty("h1,1,1,;", "h1,1,1:", "h1,1,1<", "h1,1,1,", "h1,1,1.", "n0,1,0:", "w1:", "w1,;", "g2,2,;", "g2,2:");
        faultAt("g2,2", 0);
        faultAt("g2,", 0);
        faultAt("g2", 0);
        faultAt("g", 0);
        faultAt("w0;h1,1,1", 3);
        faultAt("w0;h1,1,", 3);
        faultAt("w0;h1,1", 3);
        faultAt("w0;h1,", 3);
        faultAt("w0;h1", 3);
        faultAt("w0;h", 3);
        faultAt("w0;w0", 3);
        faultAt("w0;w00", 3);
        faultAt("w0;w", 3);
        faultAt("w0;n0,1,0", 3);
    }

    private static void asManyNumbersAsTold() {
        faulty("g4;", "g4,4,4;", "g4,4,4,4;");
        faulty("h1;", "h1,1;", "h1,1,1,1;", "h1,1,1,1,1;");
        faulty("n1;", "n1,1;", "n1,1,1,1;", "n1,1,1,1,1;");
        faulty("w1,1;", "w1,1,1;", "w1,1,1,1;");
    }

    private static void itemLetters() {
        good("g1,1;", "h0,1,1;", "n0,1,0;", "w1;");
        for (int letter = 32; letter <= 126; letter++) {
            char c = (char) letter;
            if (c != 'g') faulty(c + "1,1;");
            if (c != 'h' && c != 'n') faulty(c + "0,1,0;");
            if (c != 'w') faulty(c + "1;");
        }
        faulty("G1,1;", "H0,1,1;", "N0,1,0;", "W1;", "0,1,1;", "1;");
    }

    private static void itemsBehindOneAnother() {
        faulty(";", " ", ",", "ww0;", "w0w0;");
        faultAt("w0;;", 3);
        faultAt("w0; w0;", 3);
        faultAt("w0;,w0;", 3);
        faultAt(" w0;", 0);
        faultAt("w0;w0; ", 6);
        faultAt("", NONE);
    }

    // ---- gR,C

    private static void rowsAndColumns() {
        good("g1,1;", "g1,4;", "g4,1;", "g4,4;", "g2,3;");
        faulty("g0,1;", "g1,0;", "g0,0;", "g5,1;", "g1,5;", "g5,5;", "g0,4;", "g4,0;", "g4,5;", "g5,4;");
        faulty("g00,4;", "g4,00;", "g05,4;", "g10,4;", "g4,10;", "g14,4;", "g4,14;", "g99,99;");
    }

    private static void gridOfEachSize() {
        for (int rows = 1; rows <= 4; rows++) {
            for (int columns = 1; columns <= 4; columns++) {
                String grid = "g" + rows + "," + columns + ";";
                int houses = rows * columns;
                NewsDraughts x = written(grid + "h" + (houses - 1) + ",4,6;n0,1," + (houses - 1) + ";");
                due("lay of " + grid, x.lay(), houses);
                due("houses of " + grid, x.count(0), houses);
                due("rows of " + grid, x.count(1), rows);
                due("the last house of " + grid, x.house(houses - 1, 0), 4);
                due("behind the last house of " + grid, x.house(houses, 0), BAD);
                due("news in the last house of " + grid, x.house(houses - 1, 2), 1);
                faultAt(grid + "h" + houses + ",0,2;", grid.length());
                faultAt(grid + "n0,1," + houses + ";", grid.length());
            }
        }
    }

    private static void gridWithout() {
        NewsDraughts x = written("h11,1,0;n0,1,11;");
        due("lay without a grid", x.lay(), 12);
        due("rows without a grid", x.count(1), 3);
        due("the last house without a grid", x.house(11, 0), 1);
        x.step(1);
        due("rows of 4 without a grid", whoKnows(x, 0), 1 << 11 | 1 << 10 | 1 << 7);
        faultAt("h12,1,0;", 0);
        faultAt("n0,1,12;", 0);
        NewsDraughts behindAnother = laid("g1,2;n0,1,0;");
        rewrite(behindAnother, "n0,1,0;");
        due("without a grid, behind another one", behindAnother.lay(), 12);
    }

    private static void noOtherItemAheadOfTheGrid() {
        faultAt("h0,0,2;g3,4;", 7);
        faultAt("n0,1,0;g3,4;", 7);
        faultAt("w0;g3,4;", 3);
        faultAt("g3,4;w0;g3,4;", 8);
        faultAt("g3,4;g3,4;", NONE);
        faultAt("g3,4;g1,1;g4,4;", NONE);
        faultAt("g3,4;g1,1;g4,4;h15,0,0;", NONE);
        faultAt("g4,4;g1,1;h1,0,0;", 10);
        NewsDraughts x = laid("g4,4;g2,1;n0,1,1;");
        due("a grid behind a grid", x.count(0), 2);
        due("its rows", x.count(1), 2);
    }

    private static void housesPlainAndOpenBy2() {
        NewsDraughts x = new NewsDraughts();
        rewrite(x, "g4,4;n0,1,0;");
        x.lay();
        for (int h = 0; h < 16; h++) {
            due("kind untold " + h, x.house(h, 0), 0);
            due("open untold " + h, x.house(h, 1), 2);
        }
    }

    // ---- hX,K,O

    private static void houseNumbers() {
        good("h0,0,0;", "h15,0,0;", "h00,0,0;");
        faulty("h16,0,0;", "h17,0,0;", "h20,0,0;", "h99,0,0;");
        for (int h = 0; h < 16; h++) {
            NewsDraughts x = laid("g4,4;h" + h + ",3,5;n0,1,0;");
            for (int other = 0; other < 16; other++) {
                due("kind of " + other + " by " + h, x.house(other, 0), other == h ? 3 : 0);
                due("open " + other + " by " + h, x.house(other, 1), other == h ? 5 : 2);
            }
        }
    }

    private static void houseKindsAndWidths() {
        for (int kind = 0; kind <= 4; kind++) {
            for (int width = 0; width <= 6; width++) {
                NewsDraughts x = laid("g1,1;h0," + kind + "," + width + ";n0,1,0;");
                due("kind " + kind + " by " + width, x.house(0, 0), kind);
                due("width " + width + " of " + kind, x.house(0, 1), width);
                due("what begins there, by " + width, x.house(0, 2), 1);
            }
        }
        faulty("h0,5,0;", "h0,6,0;", "h0,10,0;", "h0,99,0;", "h0,0,7;", "h0,0,8;", "h0,0,10;", "h0,0,99;", "h0,4,7;", "h0,5,6;");
    }

    private static void theLastOneOfEachHouse() {
        NewsDraughts x = laid("g1,3;h1,4,6;h0,1,5;h1,2,3;h0,3,0;h1,0,1;n0,1,0;");
        int[] kinds = {3, 0, 0};
        int[] widths = {0, 1, 2};
        for (int h = 0; h < 3; h++) {
            due("last kind of " + h, x.house(h, 0), kinds[h]);
            due("last width of " + h, x.house(h, 1), widths[h]);
        }
        due("also behind the news", laid("g1,1;h0,1,1;n0,1,0;h0,2,4;").house(0, 1), 4);
        faultAt("h0,0,2;h0,5,2;h0,0,2;", 7);
    }

    // ---- nK,W,X

    private static void newsNumbers() {
        good("n0,1,0;", "n1,1,0;", "n2,1,0;", "n0,4,0;", "n2,4,15;");
        faulty("n3,1,0;", "n4,1,0;", "n9,1,0;", "n10,1,0;", "n0,0,0;", "n0,00,0;", "n0,5,0;", "n0,6,0;", "n0,14,0;");
        faulty("n0,1,16;", "n0,1,17;", "n0,1,99;");
        for (int kind = 0; kind <= 2; kind++) {
            for (int heavy = 1; heavy <= 4; heavy++) {
                NewsDraughts x = laid("g4,4;n" + kind + "," + heavy + ",15;");
                due("kind of news", x.news(0, 0), kind);
                due("heavy", x.news(0, 1), heavy);
                due("begin", x.news(0, 2), 15);
                due("one knows", x.news(0, 3), 1);
            }
        }
    }

    private static void fiveNews() {
        faultAt(FIVE_NEWS, NONE);
        faultAt(FIVE_NEWS + "w0;", NONE);
        faultAt(FIVE_NEWS + "n0,1,0;", 35);
        faultAt(FIVE_NEWS + "w0;n0,1,0;", 38);
        faultAt(FIVE_NEWS + "n0,1,0;n0,1,0;x", 35);
        NewsDraughts x = laid(FIVE_NEWS);
        due("five news", x.count(2), 5);
        int[][] told = {{0, 1, 0}, {0, 1, 0}, {1, 2, 1}, {2, 4, 2}, {0, 1, 0}};
        for (int n = 0; n < 5; n++) {
            for (int what = 0; what < 3; what++) due("news " + n + " in turn, " + what, x.news(n, what), told[n][what]);
        }
        due("no sixth", x.news(5, 0), BAD);
        due("three begin there", x.house(0, 2), 1 | 2 | 16);
        NewsDraughts six = written(FIVE_NEWS + "n0,1,0;");
        due("six are not laid", six.lay(), NO);
        due("what was laid stays", six.count(2), 3);
        rewrite(six, "n0,1,0;");
        six.lay();
        due("one alone, then", six.count(2), 1);
        due("no second", six.news(1, 0), BAD);
    }

    // ---- wD

    private static void windNumbers() {
        for (int wind = 0; wind <= 4; wind++) {
            due("wind told " + wind, laid("n0,1,0;w" + wind + ";").wind(0), wind);
        }
        good("w0;", "w4;", "w04;");
        faulty("w5;", "w6;", "w9;", "w10;", "w14;", "w99;");
    }

    private static void eightWinds() {
        faultAt(EIGHT_WINDS, NONE);
        faultAt(EIGHT_WINDS + "h0,0,2;", NONE);
        faultAt(EIGHT_WINDS + "w0;", 24);
        faultAt(EIGHT_WINDS + "h0,0,2;w1;", 31);
        NewsDraughts x = written("n0,1,0;" + EIGHT_WINDS + "w0;");
        due("nine are not laid", x.lay(), NO);
        due("the winds that were laid stay", x.count(3), 4);
        rewrite(x, "n0,1,0;" + EIGHT_WINDS);
        due("eight are laid", x.lay(), 12);
        due("eight winds", x.count(3), 8);
        int[] winds = {1, 2, 3, 4, 0, 4, 3, 2, 1, 2};
        for (int s = 0; s < 10; s++) due("of eight, the wind " + s, x.wind(s), winds[s]);
        rewrite(x, "n0,1,0;");
        x.lay();
        due("without winds, behind eight", x.count(3), 1);
        for (int s = 0; s < 10; s++) due("without winds, behind eight " + s, x.wind(s), 0);
    }

    private static void windsInTurn() {
        StringBuilder told = new StringBuilder();
        for (int many = 1; many <= 8; many++) {
            told.append("w").append(many % 5).append(";");
            NewsDraughts x = laid("n0,1,0;" + told);
            due("winds " + many, x.count(3), many);
            for (int s = 0; s <= 2 * many; s++) due("wind " + s + " of " + many, x.wind(s), (s % many + 1) % 5);
        }
        NewsDraughts none = laid("n0,1,0;");
        due("none told", none.count(3), 1);
        for (int s = 0; s < 3; s++) due("none told " + s, none.wind(s), 0);
        NewsDraughts one = laid("n0,1,0;w3;");
        due("one told", one.count(3), 1);
        for (int s = 0; s < 3; s++) due("one told " + s, one.wind(s), 3);
    }

    private static void windsFarOn() {
        NewsDraughts x = laid("n0,1,0;w1;w2;w3;");
        due("wind 99", x.wind(99), 1);
        due("wind 98", x.wind(98), 3);
        for (int wrong : new int[] {-1, 100, 101, Integer.MIN_VALUE, Integer.MAX_VALUE}) due("wind " + wrong, x.wind(wrong), BAD);
        x.step(2);
        due("wind 0, two steps on", x.wind(0), 3);
        due("wind 1, two steps on", x.wind(1), 1);
        due("wind 99, two steps on", x.wind(99), 3);
        due("wind 100, two steps on", x.wind(100), BAD);
        due("wind -1, two steps on", x.wind(-1), BAD);
        for (int i = 0; i < 200; i++) x.step(24);
        due("4802 steps on", x.count(4), 4802);
        due("wind 0, 4802 steps on", x.wind(0), 3);
        due("wind 1, 4802 steps on", x.wind(1), 1);
    }

    // ---- FAULT, LAID

    private static void theFirstFault() {
        faultAt("x", 0);
        faultAt("g3,4;x", 5);
        faultAt("g3,4;h12,0,0;h13,0,0;", 5);
        faultAt("w9;w0;w9;", 0);
        faultAt("w0;w9;w9;", 3);
        faultAt("w0;w0;w0", 6);
        faultAt("h0,0,7;g0,0;", 0);
        faultAt("g3,4;w0;h0,0,0;n0,0,0;w1;", 15);
        NewsDraughts x = written("w0;w9;");
        due("fault", x.fault(), 3);
        due("fault, asked again", x.fault(), 3);
        x.write('x');
        due("fault, still the first one", x.fault(), 3);
        rewrite(x, "w0;w");
        due("fault within an item", x.fault(), 3);
        x.write('4');
        due("fault until it ends", x.fault(), 3);
        x.write(';');
        due("no fault when it ends", x.fault(), NONE);
    }

    private static void layNeedsNews() {
        for (String text : new String[] {"", "g1,1;", "h0,1,1;", "w0;", "g1,1;h0,1,1;w0;"}) {
            NewsDraughts x = written(text);
            due("no fault without news: " + text, x.fault(), NONE);
            String was = look(x);
            due("lay without news: " + text, x.lay(), NO);
            same("nothing changes without news: " + text, look(x), was);
        }
        due("one of news is enough", written("n0,1,0;").lay(), 12);
    }

    private static void layWithFaultChangesNothing() {
        for (String end : new String[] {"x", "w0", "g1,1;", "h2,0,0;", "n0,1,2;", "n0,0,0;"}) {
            NewsDraughts x = new NewsDraughts();
            x.step(3);
            x.open(1, 6);
            x.keep();
            x.see(1, 0, 2, true);
            write(x, "g1,2;h1,4,6;n2,4,1;w4;" + end);
            String was = look(x);
            due("lay with a fault at the end: " + end, x.lay(), NO);
            same("nothing changes with a fault: " + end, look(x), was);
            due("it can still be undone: " + end, x.undo(), 1);
            due("the sash, undone: " + end, x.house(1, 1), 3);
            due("it is still kept: " + end, x.back(), 0);
            due("the sash, kept: " + end, x.house(1, 1), 6);
        }
    }

    private static void layBeginsAnew() {
        NewsDraughts x = new NewsDraughts();
        write(x, "g1,4;h3,0,0;n0,1,0;n1,1,3;w2;");
        due("lay", x.lay(), 4);
        String first = look(x);
        for (int i = 0; i < 6; i++) x.see(0, 0, 0, false);
        x.keep();
        x.keep();
        for (int i = 0; i < 6; i++) x.open(i % 4, 6);
        x.tell(3, 0);
        x.step(24);
        due("much is seen", x.count(6), 6);
        due("much can be undone", x.count(7), 8);
        due("much is kept", x.count(8), 2);
        due("lay again", x.lay(), 4);
        same("as at the first lay", look(x), first);
        due("nothing is undone", x.undo(), NO);
        due("nothing is kept", x.back(), NO);
        due("nothing is seen", x.forget(), 0);
        due("the text stays", x.wipe(), 29);
        due("lay of the wiped one", x.lay(), NO);
        same("what is laid stays", look(x), first.replace(",29 houses", ",0 houses"));
    }

    private static void atFirst() {
        NewsDraughts x = new NewsDraughts();
        NewsDraughts y = laid("g3,4;h1,1,3;h4,2,4;h6,3,5;h9,4,2;h10,0,0;h11,1,1;n0,1,0;n1,2,5;n2,3,8;w2;w3;w0;w1;");
        y.wipe();
        same("a new object", unwound(x), unwound(y));
        due("a new object's text", x.wipe(), 0);
        due("a new object has no fault", x.fault(), NONE);
        due("a new object's text is not to be laid", x.lay(), NO);
        NewsDraughts one = new NewsDraughts();
        NewsDraughts other = new NewsDraughts();
        one.open(0, 6);
        one.write('g');
        due("another object is another one", other.house(0, 1), 2);
        due("another object's text is another one", other.count(9), 0);
    }

    // ---- house, news

    private static void whatOfHouses() {
        NewsDraughts x = laid("g4,4;h0,1,1;h15,2,6;n0,1,0;n0,1,15;");
        int[] first = {BAD, 1, 1, 1, BAD}, last = {BAD, 2, 6, 2, BAD};
        for (int what = -1; what <= 3; what++) {
            due("the first house, " + what, x.house(0, what), first[what + 1]);
            due("the last house, " + what, x.house(15, what), last[what + 1]);
            due("ahead of the first house, " + what, x.house(-1, what), BAD);
            due("behind the last house, " + what, x.house(16, what), BAD);
            due("no house, " + what, x.house(Integer.MIN_VALUE, what), BAD);
            due("no house at all, " + what, x.house(Integer.MAX_VALUE, what), BAD);
        }
        due("house, no such what", x.house(0, Integer.MIN_VALUE), BAD);
        due("house, no such what at all", x.house(0, Integer.MAX_VALUE), BAD);
    }

    private static void whatOfNews() {
        NewsDraughts x = laid("g1,2;n1,3,0;n0,1,0;n0,1,0;n0,1,0;n2,4,1;");
        int[] first = {BAD, 1, 3, 0, 1, BAD}, last = {BAD, 2, 4, 1, 1, BAD};
        for (int what = -1; what <= 4; what++) {
            due("the first news, " + what, x.news(0, what), first[what + 1]);
            due("the last news, " + what, x.news(4, what), last[what + 1]);
            due("ahead of the first news, " + what, x.news(-1, what), BAD);
            due("behind the last news, " + what, x.news(5, what), BAD);
            due("no news, " + what, x.news(Integer.MIN_VALUE, what), BAD);
            due("no news at all, " + what, x.news(Integer.MAX_VALUE, what), BAD);
        }
        due("news, no such what", x.news(0, Integer.MIN_VALUE), BAD);
        due("news, no such what at all", x.news(0, Integer.MAX_VALUE), BAD);
        x.tell(1, 0);
        due("all houses know", x.news(0, 3), 2);
    }
}
