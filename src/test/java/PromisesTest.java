/** Each promise by hand: ordinary inputs, the edges that the document names, wrong inputs. */
public final class PromisesTest extends Trial {
    private static final int[] NOT_HOUSES_OF_12 = {-1, 12, 16, 32, Integer.MIN_VALUE, Integer.MAX_VALUE};
    private static final int[] NOT_NEWS_OF_3 = {-1, 3, 5, 32, Integer.MIN_VALUE, Integer.MAX_VALUE};

    public static void main(String[] args) {
        newObject();
        write();
        wipe();
        faultOfShape();
        faultOfNumbers();
        faultOfMany();
        lay();
        layTakesTheLastOnes();
        house();
        news();
        wind();
        stepByWinds();
        stepByHouses();
        stepInWhole();
        open();
        tell();
        undo();
        behind();
        when();
        last();
        cut();
        openings();
        openingsOrder();
        openingsWrong();
        bears();
        quarrel();
        see();
        forget();
        began();
        blew();
        gusts();
        year();
        keepAndBack();
        count();
        checks.end();
    }

    private static void newObject() {
        NewsDraughts x = new NewsDraughts();
        int[] counts = {12, 3, 3, 4, 0, 3, 0, 0, 0, 0};
        for (int i = 0; i < counts.length; i++) due("new: count " + i, x.count(i), counts[i]);
        int[] kinds = {0, 1, 0, 0, 2, 0, 3, 0, 0, 4, 0, 1};
        int[] sashes = {2, 3, 2, 2, 4, 2, 5, 2, 2, 2, 0, 1};
        int[] known = {1, 0, 0, 0, 0, 2, 0, 0, 4, 0, 0, 0};
        for (int h = 0; h < 12; h++) {
            due("new: kind of " + h, x.house(h, 0), kinds[h]);
            due("new: sash of " + h, x.house(h, 1), sashes[h]);
            due("new: known in " + h, x.house(h, 2), known[h]);
        }
        int[][] news = {{0, 1, 0, 1}, {1, 2, 5, 1}, {2, 3, 8, 1}};
        for (int n = 0; n < 3; n++) {
            for (int what = 0; what < 4; what++) due("new: news " + n + " " + what, x.news(n, what), news[n][what]);
        }
        int[] winds = {2, 3, 0, 1, 2};
        for (int s = 0; s < winds.length; s++) due("new: wind " + s, x.wind(s), winds[s]);
        due("new: undo", x.undo(), NO);
        due("new: back", x.back(), NO);
        due("new: fault", x.fault(), NONE);
        due("BAD", NewsDraughts.BAD, -1);
        due("NO", NewsDraughts.NO, -2);
        due("FULL", NewsDraughts.FULL, -3);
        due("NONE", NewsDraughts.NONE, -4);
    }

    private static void write() {
        NewsDraughts x = new NewsDraughts();
        for (int wrong : new int[] {31, 127, 0, -1, 256 + 65, Integer.MIN_VALUE, Integer.MAX_VALUE}) {
            due("write " + wrong, x.write(wrong), BAD);
        }
        due("write: nothing came", x.count(9), 0);
        due("write: first of ASCII", x.write(32), 1);
        due("write: last of ASCII", x.write(126), 2);
        for (int i = 3; i <= 200; i++) due("write: the " + i + "th", x.write('w'), i);
        due("write: full", x.write('w'), FULL);
        due("write: bad ahead of full", x.write(31), BAD);
        due("write: bad above, ahead of full", x.write(127), BAD);
        due("write: full stays", x.count(9), 200);
        due("wipe of a full one", x.wipe(), 200);
        due("write behind wipe", x.write('g'), 1);
        NewsDraughts long200 = new NewsDraughts();
        for (int i = 0; i < 38; i++) {
            for (char c : "g1,1;".toCharArray()) long200.write(c);
        }
        for (char c : "g1,01;w1;".toCharArray()) long200.write(c);
        due("fault of 199 letters", long200.fault(), NONE);
        due("the 200th", long200.write('g'), 200);
        due("fault at the 200th", long200.fault(), 199);
    }

    private static void wipe() {
        NewsDraughts x = written("g1,1;x");
        due("wipe: how long", x.wipe(), 6);
        due("wipe: again", x.wipe(), 0);
        due("wipe: count", x.count(9), 0);
        due("wipe: fault", x.fault(), NONE);
        due("wipe: lay", x.lay(), NO);
        due("wipe: what is laid stays", x.count(0), 12);
    }

    private static void faultIs(String text, int place) {
        NewsDraughts x = written(text);
        due("fault of '" + text + "'", x.fault(), place);
        due("fault of '" + text + "' again", x.fault(), place);
        due("fault: what is laid stays", x.count(0) * 100 + x.count(2) * 10 + x.count(3), 1234);
        due("fault: text stays", x.count(9), text.length());
        if (place != NONE) due("lay with fault '" + text + "'", x.lay(), NO);
    }

    private static void faultOfShape() {
        faultIs("", NONE);
        faultIs("g3,4;", NONE);
        faultIs("g03,04;h01,01,01;n00,01,00;w00;", NONE);
        faultIs("x", 0);
        faultIs(" g3,4;", 0);
        faultIs("g3,4; w0;", 5);
        faultIs("g3,4;;", 5);
        faultIs(";", 0);
        faultIs("3,4;", 0);
        faultIs("G3,4;", 0);
        faultIs("k1,1,1;", 0);
        faultIs("g3,4", 0);
        faultIs("g3,", 0);
        faultIs("g3", 0);
        faultIs("g", 0);
        faultIs("w;", 0);
        faultIs("w1;w", 3);
        faultIs("g,4;", 0);
        faultIs("g3,;", 0);
        faultIs("g3;", 0);
        faultIs("g3,4,1;", 0);
        faultIs("g3 ,4;", 0);
        faultIs("g3, 4;", 0);
        faultIs("g3,4,;", 0);
        faultIs("g3;4;", 0);
        faultIs("g003,4;", 0);
        faultIs("g3,004;", 0);
        faultIs("w001;", 0);
        faultIs("w1,1;", 0);
        faultIs("w1,1,1,1;", 0);
        faultIs("h1,1;", 0);
        faultIs("h1;", 0);
        faultIs("h1,1,1,1;", 0);
        faultIs("h1,1,1", 0);
        faultIs("h-1,1,1;", 0);
        faultIs("h1,1,1.", 0);
        faultIs("h1,1,:;", 0);
        faultIs("h1,1,/;", 0);
        faultIs("n0,1;", 0);
        faultIs("n0,1,1,1;", 0);
        faultIs("gg3,4;", 0);
        faultIs("w1;x;g3,4;", 3);
    }

    private static void faultOfNumbers() {
        faultIs("g1,1;", NONE);
        faultIs("g4,4;", NONE);
        faultIs("g0,4;", 0);
        faultIs("g5,4;", 0);
        faultIs("g4,0;", 0);
        faultIs("g4,5;", 0);
        faultIs("h0,0,0;", NONE);
        faultIs("h11,4,6;", NONE);
        faultIs("h12,0,0;", 0);
        faultIs("h11,5,0;", 0);
        faultIs("h11,0,7;", 0);
        faultIs("g4,4;h15,4,6;h16,0,0;", 13);
        faultIs("g1,2;h1,0,0;h2,0,0;", 12);
        faultIs("n0,1,0;n2,4,11;", NONE);
        faultIs("n3,1,0;", 0);
        faultIs("n0,0,0;", 0);
        faultIs("n0,5,0;", 0);
        faultIs("n0,1,12;", 0);
        faultIs("g2,1;n0,1,1;n0,1,2;", 12);
        faultIs("w0;w1;w2;w3;w4;", NONE);
        faultIs("w0;w5;", 3);
        faultIs("w10;", 0);
    }

    private static void faultOfMany() {
        faultIs("g1,1;g4,4;g2,3;", NONE);
        faultIs("g1,1;g4,4;h15,0,0;", NONE);
        faultIs("g4,4;g1,1;h1,0,0;", 10);
        faultIs("g3,4;h0,0,0;g3,4;", 12);
        faultIs("n0,1,0;g3,4;", 7);
        faultIs("w0;g3,4;", 3);
        faultIs("h1,1,1;h1,1,1;h1,2,2;", NONE);
        String five = "n0,1,0;n0,1,0;n1,1,1;n2,4,0;n0,1,0;";
        faultIs(five, NONE);
        faultIs(five + "w1;n0,1,0;", 38);
        String eight = "w0;w1;w2;w3;w4;w0;w0;w0;";
        faultIs(eight, NONE);
        faultIs(eight + "n0,1,0;w0;", 31);
    }

    private static void lay() {
        NewsDraughts x = new NewsDraughts();
        due("lay of nothing", x.lay(), NO);
        rewrite(x, "g2,3;h0,1,1;w1;");
        due("lay without news", x.lay(), NO);
        due("lay without news: stays", x.count(0), 12);
        x.step(3);
        x.open(3, 6);
        x.keep();
        x.see(0, 0, 0, true);
        rewrite(x, "g2,3;n1,2,5;x");
        due("lay with a fault", x.lay(), NO);
        due("lay with a fault: houses", x.count(0), 12);
        due("lay with a fault: steps", x.count(4), 3);
        due("lay with a fault: undone", x.count(7), 2);
        due("lay with a fault: kept", x.count(8), 1);
        due("lay with a fault: seen", x.count(6), 1);
        due("lay with a fault: sash", x.house(3, 1), 6);
        rewrite(x, "g2,3;n1,2,5;");
        due("lay", x.lay(), 6);
        int[] counts = {6, 2, 1, 1, 0, 1, 0, 0, 0, 12};
        for (int i = 0; i < counts.length; i++) due("lay: count " + i, x.count(i), counts[i]);
        due("lay: undo", x.undo(), NO);
        due("lay: back", x.back(), NO);
        due("lay: sash", x.house(3, 1), 2);
        due("lay: known", x.house(5, 2), 1);
        due("lay: known elsewhere", x.house(0, 2), 0);
        x.step(24);
        due("lay again", x.lay(), 6);
        due("lay again: steps", x.count(4), 0);
        due("lay again: who knows", whoKnows(x, 0), 32);
        rewrite(x, "n0,1,11;");
        due("lay without houses told", x.lay(), 12);
        due("lay without houses told: rows", x.count(1), 3);
        due("lay without houses told: kind", x.house(6, 0), 0);
        due("lay without houses told: sash", x.house(6, 1), 2);
        due("lay without winds told", x.count(3), 1);
        due("lay without winds told: wind", x.wind(7), 0);
    }

    private static void layTakesTheLastOnes() {
        NewsDraughts x = laid("g1,1;g4,2;h0,1,5;h7,4,6;h0,2,3;n0,1,7;n2,4,0;");
        due("the last grid", x.count(0), 8);
        due("the last grid's rows", x.count(1), 4);
        due("the last one's kind", x.house(0, 0), 2);
        due("the last one's sash", x.house(0, 1), 3);
        due("another one's kind", x.house(7, 0), 4);
        due("not told kind", x.house(3, 0), 0);
        due("not told sash", x.house(3, 1), 2);
        due("first news begin", x.news(0, 2), 7);
        due("second news begin", x.news(1, 2), 0);
        NewsDraughts other = laid("g1,2;h0,1,2;h1,3,6;n0,3,0;n0,1,1;w0;w2;");
        other.step(1);
        due("a gossip lets out", whoKnows(other, 0), 3);
        rewrite(other, "g1,2;n0,3,0;n0,1,1;");
        due("other kinds", other.lay(), 2);
        other.step(1);
        due("a gossip no more", whoKnows(other, 0), 1);
        due("humming no more", whoKnows(other, 1), 3);
        rewrite(other, "g1,2;h0,3,2;n0,1,0;");
        other.lay();
        other.step(1);
        due("plain no more", whoKnows(other, 0), 1);
        NewsDraughts smaller = laid("g4,4;n0,1,0;");
        smaller.step(1);
        rewrite(smaller, "g2,2;h2,1,2;n0,1,3;n0,1,2;");
        due("a smaller one", smaller.lay(), 4);
        smaller.step(24);
        due("a smaller one: only its houses know", smaller.news(0, 3), 4);
        due("a smaller one: by the gossip, too", smaller.news(1, 3), 4);
        due("a smaller one: houses that know", smaller.count(5), 4);
        NewsDraughts one = laid("g1,1;h0,0,0;n0,1,0;n1,1,0;");
        due("one house knows two", one.house(0, 2), 3);
        due("one house", one.step(24), 24);
        due("one house: still", one.count(5), 1);
    }

    private static void house() {
        NewsDraughts x = new NewsDraughts();
        for (int h : NOT_HOUSES_OF_12) {
            for (int what = 0; what < 3; what++) due("house " + h, x.house(h, what), BAD);
        }
        due("house: what 3", x.house(0, 3), BAD);
        due("house: what -1", x.house(0, -1), BAD);
        due("house 11", x.house(11, 0), 1);
        x.open(11, 6);
        due("house: sash opened", x.house(11, 1), 6);
        due("house: kind stays", x.house(11, 0), 1);
        x.tell(11, 2);
        x.tell(11, 0);
        due("house: told", x.house(11, 2), 5);
        due("house 15 of 16", laid("g4,4;h15,3,4;n0,1,0;").house(15, 0), 3);
    }

    private static void news() {
        NewsDraughts x = new NewsDraughts();
        for (int n : NOT_NEWS_OF_3) {
            for (int what = 0; what < 4; what++) due("news " + n, x.news(n, what), BAD);
        }
        due("news: what 4", x.news(0, 4), BAD);
        due("news: what -1", x.news(0, -1), BAD);
        x.tell(7, 1);
        x.tell(8, 1);
        due("news: who knows", x.news(1, 3), 3);
        due("news: begins as told", x.news(1, 2), 5);
        NewsDraughts five = laid("n0,1,0;n1,2,1;n2,3,2;n0,4,3;n1,1,4;");
        due("news 4: kind", five.news(4, 0), 1);
        due("news 4: heavy", five.news(4, 1), 1);
        due("news 4: begins", five.news(4, 2), 4);
        due("news 3: heavy", five.news(3, 1), 4);
        due("news 5", five.news(5, 0), BAD);
    }

    private static void wind() {
        NewsDraughts x = laid("n0,1,0;w1;w2;w4;");
        int[] winds = {1, 2, 4};
        for (int s = 0; s < 100; s++) due("wind " + s, x.wind(s), winds[s % 3]);
        due("wind 100", x.wind(100), BAD);
        due("wind -1", x.wind(-1), BAD);
        due("wind MIN", x.wind(Integer.MIN_VALUE), BAD);
        x.step(1);
        due("wind from now on", x.wind(0), 2);
        due("wind 99 from now on", x.wind(99), 2);
        due("wind 1 from now on", x.wind(1), 4);
        x.undo();
        due("wind behind undo", x.wind(0), 1);
        NewsDraughts eight = laid("n0,1,0;w1;w2;w3;w4;w0;w4;w3;w2;");
        int[] all = {1, 2, 3, 4, 0, 4, 3, 2, 1};
        for (int s = 0; s < 9; s++) due("wind of eight " + s, eight.wind(s), all[s]);
        due("winds told", eight.count(3), 8);
    }

    private static void blownTo(String text, int set) {
        NewsDraughts x = laid(text);
        x.step(1);
        due("who knows behind one step of " + text, whoKnows(x, 0), set);
    }

    private static void stepByWinds() {
        blownTo("g3,3;n0,1,4;", 0b010111010);
        blownTo("g3,3;n0,1,4;w0;", 0b010111010);
        blownTo("g3,3;n0,1,4;w1;", 0b000010010);
        blownTo("g3,3;n0,1,4;w2;", 0b000110000);
        blownTo("g3,3;n0,1,4;w3;", 0b010010000);
        blownTo("g3,3;n0,1,4;w4;", 0b000011000);
        blownTo("g3,3;n0,1,2;w1;", 0b100);
        blownTo("g3,3;n0,1,2;w2;", 0b100);
        blownTo("g3,3;n0,1,3;w4;", 0b1000);
        blownTo("g3,3;n0,1,7;w3;", 0b10000000);
        blownTo("g3,3;n0,1,0;w0;", 0b1011);
        blownTo("g3,3;n0,1,8;w0;", 0b110100000);
        blownTo("g3,3;n0,1,5;w0;", 0b100110100);
        blownTo("g3,3;n0,1,3;w0;", 0b001011001);
        blownTo("g2,4;n0,1,3;w3;", 0b10001000);
        blownTo("g2,4;n0,1,7;w1;", 0b10001000);
        blownTo("g4,4;n0,1,15;w0;", 0b1100100000000000);
        String gossip = "g3,3;h4,1,0;n0,3,4;";
        blownTo(gossip, 0b010111010);
        blownTo(gossip + "w1;", 0b000010010);
        blownTo(gossip + "w2;", 0b000110000);
        blownTo(gossip + "w3;", 0b010010000);
        blownTo(gossip + "w4;", 0b000011000);
        blownTo("g3,3;h5,1,0;n0,3,5;w2;", 0b100000);
        blownTo("g3,3;h6,1,0;n0,3,6;w4;", 0b1000000);
        blownTo("g4,1;n0,1,1;w0;", 0b0111);
        blownTo("g4,1;n0,1,1;w2;", 0b0010);
        blownTo("g4,1;n0,1,1;w4;", 0b0010);
        blownTo("g1,4;n0,1,1;w1;", 0b0010);
        blownTo("g1,4;n0,1,1;w3;", 0b0010);
        blownTo("g1,4;n0,1,1;w0;", 0b0111);
    }

    private static void stepByHouses() {
        blownTo("g1,2;n0,2,0;", 3);
        blownTo("g1,2;n0,3,0;", 1);
        blownTo("g1,2;h0,0,0;n0,2,0;", 3);
        blownTo("g1,2;h1,0,4;n0,4,0;", 3);
        blownTo("g1,2;h1,0,3;n0,4,0;", 1);
        blownTo("g1,2;h1,0,6;n0,4,0;", 3);
        blownTo("g1,2;h0,1,2;n0,3,0;", 3);
        blownTo("g1,2;h0,1,2;n0,4,0;", 1);
        blownTo("g1,2;h0,1,2;h1,0,0;n0,1,0;", 1);
        blownTo("g1,2;h0,1,2;h1,0,1;n0,1,0;", 3);
        blownTo("g1,2;h1,2,2;n0,2,0;", 1);
        blownTo("g1,2;h1,2,3;n0,2,0;", 3);
        blownTo("g1,2;h1,2,1;n0,1,0;", 1);
        blownTo("g1,2;h0,1,2;h1,2,2;n0,2,0;", 3);
        blownTo("g1,2;h0,1,2;h1,2,1;n0,2,0;", 1);
        blownTo("g1,2;h0,1,2;h1,2,0;n0,1,0;", 1);
        blownTo("g1,2;h0,2,1;n0,2,0;", 3);
        blownTo("g1,2;h0,3,6;n0,1,0;", 1);
        blownTo("g1,2;h1,3,2;n0,2,0;", 3);
        blownTo("g1,2;h0,4,6;n0,1,0;", 3);
        blownTo("g1,2;h0,4,6;n1,1,0;", 3);
        blownTo("g1,2;h0,4,6;n2,1,0;", 1);
        blownTo("g1,2;h0,0,6;n2,1,0;", 3);
        blownTo("g1,2;h0,1,6;n2,3,0;", 3);
        blownTo("g1,2;h1,4,2;n2,2,0;", 3);
        blownTo("g1,2;h1,1,2;n0,3,0;", 1);
    }

    private static void stepInWhole() {
        NewsDraughts x = laid("g1,4;n0,1,0;n1,3,3;w2;w4;");
        for (int n : new int[] {0, -1, 25, Integer.MIN_VALUE, Integer.MAX_VALUE}) due("step " + n, x.step(n), BAD);
        due("step: nothing went by", x.count(4), 0);
        due("step: nothing to be undone", x.count(7), 0);
        due("step 1", x.step(1), 1);
        due("step 1: first news", whoKnows(x, 0), 3);
        due("step 1: second news", whoKnows(x, 1), 8);
        due("step 2", x.step(1), 2);
        due("step 2: blown back", whoKnows(x, 0), 3);
        due("step 3 and 4", x.step(2), 4);
        due("step 3 and 4: one on", whoKnows(x, 0), 7);
        due("step: 24 more", x.step(24), 28);
        due("step: all know", whoKnows(x, 0), 15);
        due("step: too heavy", whoKnows(x, 1), 8);
        x.open(2, 3);
        x.step(1);
        due("step: blown right, not left", whoKnows(x, 1), 8);
        x.step(1);
        due("step: blown left", whoKnows(x, 1), 12);
    }

    private static void open() {
        NewsDraughts x = new NewsDraughts();
        for (int h : NOT_HOUSES_OF_12) due("open " + h, x.open(h, 1), BAD);
        for (int o : new int[] {-1, 7, Integer.MIN_VALUE, Integer.MAX_VALUE}) due("open by " + o, x.open(0, o), BAD);
        due("open: nothing to be undone", x.count(7), 0);
        due("open: was", x.open(4, 0), 4);
        due("open: is", x.house(4, 1), 0);
        due("open: again", x.open(4, 6), 0);
        due("open: by as much", x.open(4, 6), 6);
        due("open: each can be undone", x.count(7), 3);
        due("open: the first one", x.open(0, 1), 2);
        due("open: the last one", x.open(11, 1), 1);
        due("open: others stay", x.house(1, 1), 3);
    }

    private static void tell() {
        NewsDraughts x = new NewsDraughts();
        for (int h : NOT_HOUSES_OF_12) due("tell in " + h, x.tell(h, 0), BAD);
        for (int n : NOT_NEWS_OF_3) due("tell " + n, x.tell(0, n), BAD);
        due("tell: known", x.tell(0, 0), NO);
        due("tell: nothing to be undone", x.count(7), 0);
        due("tell: in one that is open by 0", x.tell(10, 2), 2);
        due("tell: it knows", x.house(10, 2), 4);
        due("tell: again", x.tell(10, 2), NO);
        due("tell: another one", x.tell(11, 2), 3);
        due("tell: other news", x.tell(10, 0), 2);
        due("tell: both", x.house(10, 2), 5);
        due("tell: three can be undone", x.count(7), 3);
        due("tell: houses that know", x.count(5), 5);
    }

    private static void undo() {
        NewsDraughts x = laid("g1,4;n0,1,0;w2;");
        due("undo: none", x.undo(), NO);
        x.step(2);
        x.open(3, 0);
        x.tell(3, 0);
        due("undo: telling", x.undo(), 2);
        due("undo: telling undone", whoKnows(x, 0), 7);
        due("undo: opening", x.undo(), 1);
        due("undo: opening undone", x.house(3, 1), 2);
        due("undo: all steps together", x.undo(), 0);
        due("undo: steps undone", x.count(4), 0);
        due("undo: who knows", whoKnows(x, 0), 1);
        due("undo: no more", x.undo(), NO);
        for (int i = 0; i < 10; i++) {
            x.open(i % 4, i / 4 + 3);
            due("undo: can be " + i, x.count(7), Math.min(8, i + 1));
        }
        for (int i = 7; i >= 0; i--) due("undo: of eight", x.undo(), i);
        due("undo: the ninth", x.undo(), NO);
        int[] sashes = {3, 3, 2, 2};
        for (int h = 0; h < 4; h++) due("undo: the first two stay " + h, x.house(h, 1), sashes[h]);
        x.step(1);
        x.undo();
        due("undo: then another", x.open(0, 1), 3);
        due("undo: which is undone", x.undo(), 0);
        due("undo: it is", x.house(0, 1), 3);
        x.see(0, 0, 0, true);
        x.keep();
        x.write('g');
        due("undo: not what is seen, kept or written", x.undo(), NO);
        x.open(0, 0);
        x.see(1, 0, 0, true);
        x.undo();
        due("undo: what is seen stays", x.count(6), 2);
        due("undo: what is kept stays", x.count(8), 1);
    }

    private static void behind() {
        NewsDraughts x = laid("g1,4;h3,0,1;n0,1,0;n0,2,1;w2;");
        int[][] bits = {{1, 2, 0, 0}, {1, 3, 2, 0}, {1, 3, 3, 0}, {1, 3, 3, 1}};
        for (int n = 0; n < 4; n++) {
            for (int h = 0; h < 4; h++) due("behind " + n + " " + h, x.behind(n, h), bits[n][h]);
        }
        due("behind 48", x.behind(48, 3), 1);
        due("behind 49", x.behind(49, 3), BAD);
        due("behind -1", x.behind(-1, 3), BAD);
        due("behind: no such house", x.behind(0, 4), BAD);
        due("behind: house -1", x.behind(0, -1), BAD);
        due("behind: nothing changes", x.count(4) + x.count(7), 0);
        due("behind: who knows stays", whoKnows(x, 0), 1);
        x.step(2);
        due("behind: from now on", x.behind(1, 3), 1);
        NewsDraughts winds = laid("g1,3;n0,1,0;w4;w4;w2;");
        due("behind: by the winds of now", winds.behind(2, 1), 0);
        winds.step(1);
        due("behind: by the winds from now on", winds.behind(2, 1), 1);
    }

    private static void when() {
        NewsDraughts x = laid("g1,4;h3,0,1;n0,1,0;n0,2,1;w2;w4;");
        due("when: now", x.when(0, 0), 0);
        due("when: 1", x.when(1, 0), 1);
        due("when: 3", x.when(2, 0), 3);
        due("when: 5", x.when(3, 0), 5);
        due("when: back by the second wind", x.when(0, 1), 2);
        due("when: never", x.when(3, 1), NONE);
        due("when: no such house", x.when(4, 0), BAD);
        due("when: house -1", x.when(-1, 0), BAD);
        due("when: no such news", x.when(0, 2), BAD);
        due("when: news -1", x.when(0, -1), BAD);
        x.step(4);
        due("when: from now on", x.when(3, 0), 1);
        // a row of 7 on the way by winds that come once in 8 steps: 6 steps on are 41 to 48 steps away
        NewsDraughts slow = laid("g4,4;n0,1,0;w2;w4;w4;w4;w4;w4;w4;w3;");
        due("when: at the eighth step", slow.when(4, 0), 8);
        due("when: 24th", slow.when(12, 0), 24);
        due("when: along", slow.when(15, 0), 24);
        NewsDraughts edge = laid("g4,2;n0,1,0;w4;w4;w4;w4;w4;w4;w4;w2;");
        due("when: 8", edge.when(1, 0), 8);
        NewsDraughts far = laid("g4,4;h4,0,0;h5,0,0;h6,0,0;h8,0,0;h9,0,0;h10,0,0;n0,1,12;w3;w3;w3;w3;w3;w3;w1;w2;");
        due("when: up and along", far.when(3, 0), 47);
        // right at the steps 8, 16, 24, then up at 31, 39, 47: behind 47 steps, and not behind 46
        NewsDraughts near = laid("g4,4;h8,0,0;h9,0,0;h10,0,0;h4,0,0;h5,0,0;h6,0,0;h0,0,0;h1,0,0;h2,0,0;n0,1,12;w3;w3;w3;w3;w3;w3;w1;w2;");
        due("when: 47", near.when(3, 0), 47);
        due("behind 46", near.behind(46, 3), 0);
        due("behind 47", near.behind(47, 3), 1);
        // right at the steps 7, 15, 23, then up at 24, 32, 40
        NewsDraughts right = laid("g4,4;h8,0,0;h9,0,0;h10,0,0;h4,0,0;h5,0,0;h6,0,0;h0,0,0;h1,0,0;h2,0,0;n0,1,12;w3;w3;w3;w3;w3;w3;w2;w1;");
        due("when: 40", right.when(3, 0), 40);
        right.open(13, 0);
        due("when: stuffed", right.when(3, 0), NONE);
        // along the first row and back along the third, one house in 8 steps: the sixth at 48, the seventh too late
        NewsDraughts end = laid("g3,4;h4,0,0;h5,0,0;h6,0,0;n0,1,0;w1;w1;w1;w1;w1;w1;w1;w0;");
        due("when: 48", end.when(10, 0), 48);
        due("when: 56 is too late", end.when(9, 0), NONE);
        due("behind 47 not yet", end.behind(47, 10), 0);
        due("behind 48 just so", end.behind(48, 10), 1);
        due("last: at 48", end.last(0, 0), 10);
        due("last: at 48, when", end.last(0, 1), 48);
        due("cut: too late anyway", end.cut(9, 0, 0), 0);
        due("cut: at 48", end.cut(10, 0, 1), 2);
        due("bears: too late anyway", end.bears(9, 0), 6);
        due("bears: at 48", end.bears(10, 0), 0);
        end.step(1);
        due("when: one step later", end.when(9, 0), NONE);
        end.step(7);
        due("when: eight steps later", end.when(9, 0), 48);
    }

    private static void last() {
        NewsDraughts x = new NewsDraughts();
        for (int n : NOT_NEWS_OF_3) due("last: news " + n, x.last(n, 0), BAD);
        due("last: what 2", x.last(0, 2), BAD);
        due("last: what -1", x.last(0, -1), BAD);
        NewsDraughts row = laid("g1,4;n0,1,1;n0,4,0;");
        due("last: the farthest", row.last(0, 0), 3);
        due("last: behind how many", row.last(0, 1), 2);
        due("last: nobody", row.last(1, 0), NONE);
        due("last: nobody, when", row.last(1, 1), NONE);
        due("last: bad ahead of none", row.last(1, 2), BAD);
        row.step(1);
        due("last: from now on", row.last(0, 1), 1);
        row.step(1);
        due("last: all know", row.last(0, 0), NONE);
        due("last: house 0", laid("g1,2;n0,1,1;").last(0, 0), 0);
        NewsDraughts square = laid("g3,3;n0,1,4;");
        due("last: of several the highest", square.last(0, 0), 8);
        due("last: of several, when", square.last(0, 1), 2);
        square.open(8, 0);
        due("last: the highest that hears", square.last(0, 0), 6);
    }

    private static void cut() {
        NewsDraughts x = new NewsDraughts();
        for (int h : NOT_HOUSES_OF_12) due("cut: house " + h, x.cut(h, 0, 0), BAD);
        for (int n : NOT_NEWS_OF_3) due("cut: news " + n, x.cut(0, n, 0), BAD);
        due("cut: what 2", x.cut(0, 0, 2), BAD);
        due("cut: what -1", x.cut(0, 0, -1), BAD);
        NewsDraughts row = laid("g1,4;n0,1,0;n0,4,0;");
        due("cut: of several the lowest, how many", row.cut(3, 0, 0), 1);
        due("cut: of several the lowest", row.cut(3, 0, 1), 2);
        due("cut: the one beside cannot be", row.cut(1, 0, 0), NONE);
        due("cut: knows", row.cut(0, 0, 1), NONE);
        due("cut: never hears", row.cut(3, 1, 0), 0);
        due("cut: never hears, which", row.cut(3, 1, 1), 0);
        NewsDraughts square = laid("g4,4;n0,1,5;");
        due("cut: a corner", square.cut(15, 0, 0), 2);
        due("cut: a corner, which", square.cut(15, 0, 1), 1 << 11 | 1 << 14);
        due("cut: beside it", square.cut(6, 0, 0), NONE);
        due("cut: across", square.cut(10, 0, 0), NONE);
        due("cut: the lower corner", square.cut(0, 0, 1), 1 << 1 | 1 << 4);
        NewsDraughts ladder = laid("g3,4;n0,1,0;n0,1,4;n0,1,8;");
        due("cut: three", ladder.cut(11, 1, 0), 2);
        NewsDraughts wide = laid("g3,3;n0,1,3;");
        due("cut: a middle house", wide.cut(5, 0, 0), 3);
        due("cut: a middle house, lowest", wide.cut(5, 0, 1), 1 | 1 << 4 | 1 << 6);
        NewsDraughts four = laid("g4,4;n0,1,0;n0,1,9;");
        due("cut: four would be", four.cut(9, 0, 0), 2);
        NewsDraughts many = laid("g3,3;h4,0,2;n0,1,0;");
        many.tell(2, 0);
        many.tell(6, 0);
        many.tell(8, 0);
        due("cut: four is too many", many.cut(4, 0, 0), NONE);
        many.open(1, 0);
        due("cut: three of four", many.cut(4, 0, 0), 3);
        due("cut: three of four, which", many.cut(4, 0, 1), 1 << 3 | 1 << 5 | 1 << 7);
        due("cut: nothing changes", many.house(3, 1), 2);
    }

    private static void openings() {
        NewsDraughts x = laid("g1,4;n0,3,0;w2;");
        due("openings: so already", x.openings(0, 1, 1, 2, 0), 0);
        due("openings: so already, first", x.openings(0, 1, 1, 2, 1), NONE);
        due("openings: so already, second", x.openings(0, 1, 1, 2, 2), NONE);
        due("openings: neither set", x.openings(0, 1, 0, 0, 0), 0);
        due("openings: one", x.openings(0, 1, 2, 0, 0), 1);
        due("openings: one, by the least", x.openings(0, 1, 2, 0, 1), 13);
        due("openings: one, no second", x.openings(0, 1, 2, 0, 2), NONE);
        due("openings: two", x.openings(0, 2, 4, 0, 0), 2);
        due("openings: two, first", x.openings(0, 2, 4, 0, 1), 13);
        due("openings: two, second", x.openings(0, 2, 4, 0, 2), 23);
        due("openings: too few steps", x.openings(0, 1, 4, 0, 0), NONE);
        due("openings: three would be", x.openings(0, 12, 8, 0, 0), NONE);
        due("openings: three would be, first", x.openings(0, 12, 8, 0, 1), NONE);
        due("openings: on the way", x.openings(0, 2, 4, 2, 0), NONE);
        due("openings: knows now", x.openings(0, 1, 0, 1, 0), NONE);
        due("openings: nothing changes", x.house(1, 1) + x.count(7), 2);
        x.open(1, 3);
        due("openings: stuffed", x.openings(0, 12, 0, 2, 1), 10);
        due("openings: one is enough", x.openings(0, 2, 6, 8, 1), 23);
        due("openings: to let one in ahead of another", x.openings(0, 12, 4, 8, 0), 1);
    }

    private static void openingsOrder() {
        NewsDraughts middle = laid("g1,3;n0,1,1;");
        due("order: house 0 and 2", middle.openings(0, 1, 0, 5, 1), 0);
        due("order: house 0 and 2, second", middle.openings(0, 1, 0, 5, 2), 20);
        // 0 and 3 know; 1 and 2 shall not: both have to be stuffed, each by 0 or by 1 as heavy as it is
        NewsDraughts row = laid("g1,4;n0,2,0;n0,1,0;");
        row.tell(3, 0);
        due("order: both", row.openings(0, 1, 0, 6, 0), 2);
        due("order: lower first", row.openings(0, 1, 0, 6, 1), 10);
        due("order: then higher", row.openings(0, 1, 0, 6, 2), 20);
        // a way by house 0 is first even where it has nothing to do with it
        NewsDraughts idle = laid("g1,3;h1,0,0;n0,3,0;w2;");
        due("order: one house is fewer", idle.openings(0, 1, 2, 0, 0), 1);
        due("order: by 3", idle.openings(0, 1, 2, 0, 1), 13);
        NewsDraughts sides = laid("g1,3;h0,1,0;h1,0,0;h2,0,0;n0,3,0;");
        due("order: from a gossip by 2", sides.openings(0, 1, 2, 0, 1), 12);
        due("order: from a gossip, then a talker", sides.openings(0, 2, 4, 0, 1), 12);
        due("order: from a gossip, then a talker by 3", sides.openings(0, 2, 4, 0, 2), 23);
        NewsDraughts deaf = laid("g1,2;h0,1,0;h1,2,0;n0,4,0;");
        due("order: a deaf one by 4", deaf.openings(0, 1, 2, 0, 1), 14);
        due("order: a deaf one by 5", laid("g1,2;h1,2,0;n0,4,0;").openings(0, 1, 2, 0, 1), 15);
        // 1 shall know and 3 shall not: 1 open by 3 or more, 2 shut or 3 shut, the lower one first
        NewsDraughts gate = laid("g1,4;h2,0,6;h3,0,6;n0,3,0;w2;");
        due("order: know and not", gate.openings(0, 3, 2, 8, 0), 2);
        due("order: know and not, first", gate.openings(0, 3, 2, 8, 1), 13);
        due("order: know and not, second", gate.openings(0, 3, 2, 8, 2), 20);
        // by a square two ways lead to 3; the way by 1 comes first
        NewsDraughts square = laid("g2,2;h1,0,0;h2,0,0;h3,0,0;n0,1,0;");
        due("order: two ways", square.openings(0, 2, 8, 0, 0), 2);
        due("order: two ways, first", square.openings(0, 2, 8, 0, 1), 11);
        due("order: two ways, second", square.openings(0, 2, 8, 0, 2), 31);
        due("order: behind 12", square.openings(0, 12, 8, 2, 1), 21);
        // the amount of the lower house goes ahead of which the higher one is:
        // 0 and 1 shall not know; 3 knows; 1 by 0 with 2 by 0 is behind 0 by 0 with 1 by 0
        NewsDraughts lower = laid("g1,4;n0,2,3;w4;");
        due("order: one stuffed", lower.openings(0, 3, 0, 1, 1), 0);
        due("order: one stuffed farther", lower.openings(0, 3, 0, 3, 1), 10);
        due("order: far one", laid("g4,4;n0,3,14;w2;").openings(0, 1, 1 << 15, 0, 1), 153);
        due("order: two figures", laid("g4,4;h15,0,0;n0,4,13;w2;").openings(0, 2, 1 << 15, 0, 1), 144);
        due("order: two figures, second", laid("g4,4;h15,0,0;n0,4,13;w2;").openings(0, 2, 1 << 15, 0, 2), 154);
    }

    private static void openingsWrong() {
        NewsDraughts x = new NewsDraughts();
        for (int n : NOT_NEWS_OF_3) due("openings: news " + n, x.openings(n, 1, 1, 0, 0), BAD);
        for (int s : new int[] {0, -1, 13, Integer.MAX_VALUE}) due("openings: steps " + s, x.openings(0, s, 1, 0, 0), BAD);
        for (int k : new int[] {-1, 3, Integer.MIN_VALUE}) due("openings: k " + k, x.openings(0, 1, 1, 0, k), BAD);
        for (int set : new int[] {-1, 4096, 65536, Integer.MIN_VALUE, Integer.MAX_VALUE}) {
            due("openings: know " + set, x.openings(0, 1, set, 0, 0), BAD);
            due("openings: not " + set, x.openings(0, 1, 0, set, 0), BAD);
        }
        due("openings: in both", x.openings(0, 1, 3, 2, 0), BAD);
        due("openings: steps 12, all houses", x.openings(0, 12, 4095, 0, 0), 1);
        due("openings: the one that is shut", x.openings(0, 12, 4095, 0, 1), 101);
        due("openings: none of all", x.openings(0, 12, 0, 4095, 0), NONE);
        due("openings: all of 16", laid("g4,4;n0,1,5;").openings(0, 4, 65535, 0, 0), 0);
        due("openings: more than 16", laid("g4,4;n0,1,5;").openings(0, 4, 65536, 0, 0), BAD);
    }

    private static void bears() {
        NewsDraughts x = new NewsDraughts();
        for (int h : NOT_HOUSES_OF_12) due("bears: house " + h, x.bears(h, 0), BAD);
        for (int v : new int[] {-1, 21, Integer.MIN_VALUE}) due("bears: v " + v, x.bears(0, v), BAD);
        // 0 knows news of 1, 2, 3 and 4, all that comes to 1 from there
        NewsDraughts pair = laid("g1,2;h1,0,0;n0,1,0;n0,2,0;n1,3,0;n1,4,0;");
        int[] widest = {0, 1, 1, 2, 2, 2, 3, 3, 3, 3, 6};
        for (int v = 0; v < widest.length; v++) due("bears " + v, pair.bears(1, v), widest[v]);
        due("bears 20", pair.bears(1, 20), 6);
        due("bears: knows already", pair.bears(0, 9), NONE);
        due("bears: knows just so much", pair.bears(0, 10), 6);
        due("bears: nothing changes", pair.house(1, 1), 0);
        NewsDraughts deaf = laid("g1,2;h1,2,0;n0,4,0;");
        due("bears: deaf", deaf.bears(1, 3), 4);
        due("bears: deaf, all", deaf.bears(1, 4), 6);
        NewsDraughts gossip = laid("g1,2;h0,1,0;n0,4,0;");
        due("bears: by gossip", gossip.bears(1, 3), 2);
        NewsDraughts light = laid("g1,2;h0,1,0;n0,1,0;");
        due("bears: by gossip, light", light.bears(1, 0), 0);
        due("bears: by gossip, all", light.bears(1, 1), 6);
        // a talker beside it and a gossip: a width counts otherwise for the two
        NewsDraughts beside = laid("g1,3;h0,1,0;h1,0,0;n0,3,0;n0,3,2;");
        due("bears: gossip and talker, none", beside.bears(1, 2), 1);
        due("bears: gossip and talker, one", beside.bears(1, 3), 2);
        due("bears: gossip and talker, both", beside.bears(1, 6), 6);
        NewsDraughts five = laid("g1,2;n0,4,0;n0,4,0;n0,4,0;n0,4,0;n0,4,0;");
        due("bears: five of 4", five.bears(0, 20), 6);
        due("bears: five of 4, less", five.bears(0, 19), NONE);
        due("bears: the other one, less", five.bears(1, 19), 3);
    }

    private static void quarrel() {
        NewsDraughts x = new NewsDraughts();
        for (int h : NOT_HOUSES_OF_12) due("quarrel: house " + h, x.quarrel(h, 0, 1, 0), BAD);
        for (int n : NOT_NEWS_OF_3) due("quarrel: news " + n, x.quarrel(0, n, 1, 0), BAD);
        for (int s : new int[] {0, -1, 13, Integer.MAX_VALUE}) due("quarrel: steps " + s, x.quarrel(0, 0, s, 0), BAD);
        for (int w : new int[] {-1, 2, Integer.MIN_VALUE}) due("quarrel: what " + w, x.quarrel(0, 0, 1, w), BAD);
        NewsDraughts pair = laid("g1,2;h1,0,3;n0,2,0;n0,3,0;n0,4,0;");
        due("quarrel: knows", pair.quarrel(0, 0, 1, 0), 1);
        due("quarrel: knows, none", pair.quarrel(0, 0, 1, 1), 16);
        due("quarrel: open wide enough for both", pair.quarrel(1, 0, 1, 0), 1);
        due("quarrel: open wide enough for both, none", pair.quarrel(1, 0, 1, 1), 16);
        due("quarrel: 1 more helps", pair.quarrel(1, 1, 1, 0), 1);
        due("quarrel: 1 more helps, which", pair.quarrel(1, 1, 1, 1), 1);
        due("quarrel: 1 more does not", pair.quarrel(1, 2, 1, 0), 0);
        due("quarrel: 1 more does not, none", pair.quarrel(1, 2, 1, 1), 16);
        due("quarrel: nothing changes", pair.house(1, 1) + pair.count(7), 3);
        NewsDraughts wide = laid("g1,2;h1,2,6;n0,4,0;");
        due("quarrel: at 6", wide.quarrel(1, 0, 1, 0), 1);
        NewsDraughts shut = laid("g1,3;h1,0,0;n0,1,0;");
        due("quarrel: shut again", shut.quarrel(1, 0, 1, 0), 0);
        due("quarrel: too far", laid("g1,4;h1,0,6;h2,0,6;n0,1,0;").quarrel(2, 0, 1, 0), 0);
        due("quarrel: in time", laid("g1,4;h1,0,6;h2,0,6;n0,1,0;").quarrel(2, 0, 2, 0), 1);
        // two ways from 0 to 3, one of which the other cannot shut both; the lowest that helps is 1
        NewsDraughts ways = laid("g2,2;h1,0,1;h2,0,2;h3,0,4;n0,2,0;");
        due("quarrel: a second way", ways.quarrel(3, 0, 2, 0), 1);
        due("quarrel: a second way, lowest", ways.quarrel(3, 0, 2, 1), 1);
        NewsDraughts both = laid("g2,2;h1,0,2;h2,0,2;h3,0,3;n0,2,0;");
        due("quarrel: two ways already", both.quarrel(3, 0, 2, 1), 16);
        due("quarrel: two ways already, knows", both.quarrel(3, 0, 2, 0), 1);
        NewsDraughts first = laid("g1,2;h0,0,2;n0,2,1;");
        due("quarrel: house 0", first.quarrel(0, 0, 1, 0), 1);
        due("quarrel: house 0, which", first.quarrel(0, 0, 1, 1), 0);
        due("quarrel: the last of 16", laid("g4,4;h15,0,2;n0,2,14;").quarrel(15, 0, 1, 1), 15);
    }

    private static void see() {
        NewsDraughts x = new NewsDraughts();
        for (int h : NOT_HOUSES_OF_12) due("see: house " + h, x.see(h, 0, 0, true), BAD);
        for (int n : NOT_NEWS_OF_3) due("see: news " + n, x.see(0, n, 0, true), BAD);
        for (int t : new int[] {-1, 31, Integer.MAX_VALUE}) due("see: t " + t, x.see(0, 0, t, false), BAD);
        due("see: nothing came", x.count(6), 0);
        for (int i = 1; i <= 6; i++) due("see " + i, x.see(0, 0, i == 1 ? 0 : 30, true), i);
        due("see: full", x.see(0, 0, 0, true), FULL);
        due("see: bad ahead of full", x.see(12, 0, 0, true), BAD);
        due("see: full stays", x.count(6), 6);
        due("see: nothing to be undone", x.undo(), NO);
        due("see: forgotten", x.forget(), 6);
        due("see: again", x.see(11, 2, 30, false), 1);
    }

    private static void forget() {
        NewsDraughts x = new NewsDraughts();
        due("forget: none", x.forget(), 0);
        x.see(1, 0, 0, true);
        x.see(1, 0, 0, false);
        due("forget: not both", x.began(0), 0);
        due("forget: no wind", x.blew(), 0);
        due("forget: two", x.forget(), 2);
        due("forget: all again", x.began(0), 4095);
        due("forget: winds again", x.blew(), 31);
        due("forget: count", x.count(6), 0);
    }

    private static void began() {
        NewsDraughts x = laid("g1,4;n0,1,0;n0,1,3;w2;");
        due("began: nothing seen", x.began(0), 15);
        due("began: no such news", x.began(2), BAD);
        due("began: news -1", x.began(-1), BAD);
        x.see(2, 0, 1, true);
        due("began: of 2 or beside it", x.began(0), 6);
        due("began: other news", x.began(1), 15);
        x.see(3, 0, 1, false);
        due("began: not of 2", x.began(0), 2);
        x.see(1, 0, 0, true);
        due("began: now", x.began(0), 2);
        x.see(1, 1, 0, false);
        due("began: other news now", x.began(1), 13);
        due("began: the first news stay", x.began(0), 2);
        x.see(0, 0, 30, true);
        due("began: of none", x.began(0), 0);
        due("began: nothing changes", whoKnows(x, 0), 1);
        NewsDraughts far = laid("g1,4;n0,1,0;w4;w2;");
        far.see(1, 0, 1, true);
        due("began: by the wind of now", far.began(0), 6);
        far.step(1);
        due("began: by the wind then", far.began(0), 3);
        NewsDraughts end = laid("g4,4;n0,1,0;");
        end.see(15, 0, 30, true);
        due("began: behind 30", end.began(0), 65535);
        end.see(0, 0, 2, false);
        due("began: not within 2", end.began(0), 65535 & ~(1 | 2 | 4 | 16 | 32 | 256));
    }

    private static void blew() {
        NewsDraughts x = laid("g3,3;n0,1,4;n0,1,0;w1;w2;");
        due("blew: nothing seen", x.blew(), 31);
        x.see(5, 0, 1, true);
        due("blew: right or from all sides", x.blew(), 0b00101);
        x.see(3, 0, 1, false);
        due("blew: right", x.blew(), 0b00100);
        x.see(3, 1, 1, false);
        due("blew: other news too", x.blew(), 0b00100);
        x.see(1, 1, 1, false);
        due("blew: none", x.blew(), 0);
        x.forget();
        x.see(4, 0, 0, true);
        due("blew: now is now", x.blew(), 31);
        x.see(0, 0, 0, true);
        due("blew: what is not so now", x.blew(), 0);
        x.forget();
        x.see(1, 0, 0, false);
        due("blew: beside it, now", x.blew(), 31);
        x.forget();
        x.see(8, 0, 2, true);
        due("blew: then the wind that is told", x.blew(), 0b01001);
        x.forget();
        x.see(2, 0, 2, true);
        x.step(1);
        due("blew: from now on", x.blew(), 0b00101);
        NewsDraughts single = laid("g3,3;n0,1,4;w1;w2;");
        single.step(1);
        single.see(6, 0, 1, true);
        due("blew: too far", single.blew(), 0);
        single.forget();
        single.see(7, 0, 1, true);
        due("blew: down or from all sides", single.blew(), 0b01001);
        single.forget();
        single.see(3, 0, 1, true);
        due("blew: left or from all sides", single.blew(), 0b10001);
        single.forget();
        single.see(1, 0, 1, true);
        due("blew: known before", single.blew(), 31);
        due("blew: nothing changes", single.wind(0), 2);
    }

    private static void chance(String text, int h, int steps, int above, int below) {
        NewsDraughts x = laid(text);
        due("gusts above, " + text + " " + h + " " + steps, x.gusts(h, 0, steps, 0), above);
        due("gusts below, " + text + " " + h + " " + steps, x.gusts(h, 0, steps, 1), below);
    }

    private static void gusts() {
        NewsDraughts x = new NewsDraughts();
        for (int h : NOT_HOUSES_OF_12) due("gusts: house " + h, x.gusts(h, 0, 1, 0), BAD);
        for (int n : NOT_NEWS_OF_3) due("gusts: news " + n, x.gusts(0, n, 1, 0), BAD);
        for (int s : new int[] {-1, 5, Integer.MAX_VALUE}) due("gusts: steps " + s, x.gusts(0, 0, s, 0), BAD);
        for (int p : new int[] {-1, 2, Integer.MIN_VALUE}) due("gusts: part " + p, x.gusts(0, 0, 1, p), BAD);
        chance("g1,4;n0,1,0;w4;", 0, 0, 1, 1);
        chance("g1,4;n0,1,0;w4;", 1, 0, 0, 1);
        chance("g1,4;n0,1,0;w4;", 0, 4, 1, 1);
        chance("g1,4;n0,1,0;w4;", 1, 1, 1, 4);
        chance("g1,4;n0,1,0;w4;", 1, 2, 7, 16);
        chance("g1,4;n0,1,0;w4;", 1, 3, 37, 64);
        chance("g1,4;n0,1,0;w4;", 1, 4, 175, 256);
        chance("g1,4;n0,1,0;w4;", 2, 2, 1, 16);
        chance("g1,4;n0,1,0;w4;", 2, 3, 5, 32);
        chance("g1,4;n0,1,0;w4;", 2, 1, 0, 1);
        chance("g1,4;n0,1,0;w4;", 3, 3, 1, 64);
        chance("g1,4;n0,1,0;w4;", 3, 4, 13, 256);
        chance("g2,2;n0,1,0;", 3, 2, 1, 8);
        chance("g4,1;n0,1,3;", 2, 1, 1, 4);
        chance("g1,2;n0,1,1;", 0, 1, 1, 4);
        chance("g2,1;n0,1,0;", 1, 1, 1, 4);
    }

    private static void year() {
        NewsDraughts x = new NewsDraughts();
        for (int z : new int[] {-1, 10000, Integer.MIN_VALUE}) due("year: z " + z, x.year(z, 1, 0), BAD);
        for (int n : new int[] {0, -1, 61, Integer.MAX_VALUE}) due("year: n " + n, x.year(0, n, 0), BAD);
        for (int w : new int[] {-1, 2, Integer.MAX_VALUE}) due("year: what " + w, x.year(0, 1, w), BAD);
        // x = 1 for z 0, k 0: DRAW 0, so house 0 is stuffed ahead of the first step
        NewsDraughts stuffed = laid("g1,2;n0,1,1;");
        due("year: the first draw stuffs 0", stuffed.year(0, 1, 0), 1);
        due("year: nobody came to know", stuffed.year(0, 1, 1), 0);
        // z 0, k 1: x 6152, x times x modulo 65521 is 41487, DRAW 20743: house 1 of 2, by 1296 modulo 7, 1
        NewsDraughts second = laid("g1,2;h0,0,3;h1,0,0;n0,1,0;n0,2,0;");
        due("year: shut ahead of the second draw", second.year(0, 1, 1), 0);
        due("year: the second draw opens 1", second.year(0, 2, 1), 1);
        due("year: the second draw, houses", second.year(0, 2, 0), 2);
        // z 1, k 0: x 7920, x times x modulo 65521 is 22803, DRAW 11401: house 1 of 2, by 712 modulo 7, 5
        NewsDraughts opened = laid("g1,2;h1,0,0;n0,4,0;n1,4,0;n2,3,1;n0,2,1;");
        due("year: opened by 5", opened.year(1, 1, 0), 2);
        due("year: three times", opened.year(1, 1, 1), 3);
        due("year: one step, one house on", laid("g1,4;n0,1,0;w2;").year(1, 1, 1), 1);
        due("year: nothing changes", opened.house(1, 1), 0);
        due("year: who knows stays", opened.house(1, 2), 12);
        due("year: steps stay", opened.count(4), 0);
        due("year: z 9999, 60 steps", laid("g1,1;n0,1,0;").year(9999, 60, 0), 1);
        due("year: nobody beside", laid("g1,1;n0,1,0;").year(9999, 60, 1), 0);
    }

    private static void keepAndBack() {
        NewsDraughts x = laid("g1,4;n0,1,0;w2;");
        due("back: none", x.back(), NO);
        due("keep", x.keep(), 1);
        x.step(1);
        x.open(3, 5);
        due("keep: undone stays", x.count(7), 2);
        due("keep: another one", x.keep(), 2);
        x.tell(3, 0);
        x.step(24);
        x.see(0, 0, 0, false);
        x.wipe();
        x.write('x');
        due("keep: full", x.keep(), FULL);
        due("keep: two", x.count(8), 2);
        due("back", x.back(), 1);
        due("back: steps", x.count(4), 1);
        due("back: sash", x.house(3, 1), 5);
        due("back: who knows", whoKnows(x, 0), 3);
        due("back: nothing is undone", x.undo(), NO);
        due("back: count undone", x.count(7), 0);
        due("back: what is seen stays", x.count(6), 1);
        due("back: the text stays", x.count(9), 1);
        x.open(0, 0);
        due("back: the first one", x.back(), 0);
        due("back: steps of the first one", x.count(4), 0);
        due("back: sash of the first one", x.house(3, 1), 2);
        due("back: who knew first", whoKnows(x, 0), 1);
        due("back: nothing is undone again", x.undo(), NO);
        due("back: no more", x.back(), NO);
        x.open(1, 1);
        due("keep: again", x.keep(), 1);
        due("keep: undo goes on", x.undo(), 0);
        due("keep: as it stood", x.back(), 0);
        due("keep: opened", x.house(1, 1), 1);
        x.open(2, 4);
        due("back: no, then nothing changes", x.back(), NO);
        due("back: no, undone stays", x.count(7), 1);
    }

    private static void count() {
        NewsDraughts x = laid("g2,3;n0,1,0;n1,1,0;w1;w0;");
        int[] counts = {6, 2, 2, 2, 0, 1, 0, 0, 0, 25};
        for (int i = 0; i < counts.length; i++) due("count " + i, x.count(i), counts[i]);
        for (int what : new int[] {-1, 10, Integer.MIN_VALUE, Integer.MAX_VALUE}) due("count " + what, x.count(what), BAD);
        x.step(2);
        x.step(3);
        x.see(0, 0, 0, true);
        x.keep();
        due("count: steps", x.count(4), 5);
        due("count: who knows any", x.count(5), 5);
        due("count: seen", x.count(6), 1);
        due("count: undone", x.count(7), 2);
        due("count: kept", x.count(8), 1);
        x.wipe();
        due("count: letters", x.count(9), 0);
    }
}
