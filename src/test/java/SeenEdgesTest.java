/** Section 4 of the document and promises 20 to 28, sentence by sentence, at the edges that each names. */
public final class SeenEdgesTest extends Trial {
    /** From 0 right to 3, then down to 11, one house in 6 STEPS: 11 hears behind 30 of them. */
    private static final String THIRTY = "g3,4;h4,0,0;h5,0,0;h6,0,0;n0,1,0;w1;w1;w1;w1;w1;w0;";
    private static final int[] WILD = {Integer.MIN_VALUE, -2, -1, 10001, 65536, Integer.MAX_VALUE};

    public static void main(String[] args) {
        seenSix();
        seeNumbers();
        seenTwice();
        forgotten();
        beganByNothing();
        beganNow();
        beganThirty();
        beganOfTheseNews();
        beganAsItStands();
        blewByNothing();
        blewEach();
        blewThirty();
        blewTheNextStepAlone();
        blewAsItStands();
        gustsOfNoStep();
        gustsOfFour();
        gustsAlways();
        gustsNumbers();
        yearByDraws();
        yearByOpeningAndSteps();
        yearNumbers();
        keptTwo();
        keptRoundAndRound();
        keptButNotSeen();
        counted();
        countedAtMost();
        countedAtLeast();
        checks.end();
    }

    // ---- "SEEN (6 at most)", "t (0 to 30)"

    private static void seenSix() {
        NewsDraughts x = laid("g1,2;n0,1,0;");
        for (int i = 1; i <= 6; i++) due("see " + i, x.see(0, 0, 0, true), i);
        String was = look(x);
        due("see 7", x.see(0, 0, 0, false), FULL);
        due("see 7, bad", x.see(2, 0, 0, false), BAD);
        same("nothing changes when full", look(x), was);
        due("all six are so", x.began(0), 1);
        due("forget six", x.forget(), 6);
        for (int i = 1; i <= 6; i++) due("see " + i + " again", x.see(1, 0, 0, true), i);
        due("see 7 again", x.see(1, 0, 0, true), FULL);
        due("the six old ones are forgotten", x.began(0), 2);
    }

    private static void seeNumbers() {
        NewsDraughts x = laid("g4,4;n0,1,0;n0,1,0;n0,1,0;n0,1,0;n0,1,0;");
        for (int wrong : WILD) {
            due("see in " + wrong, x.see(wrong, 0, 0, true), BAD);
            due("see of " + wrong, x.see(0, wrong, 0, true), BAD);
            due("see behind " + wrong, x.see(0, 0, wrong, true), BAD);
        }
        due("see in 16", x.see(16, 0, 0, false), BAD);
        due("see of 5", x.see(0, 5, 0, false), BAD);
        due("see behind 31", x.see(0, 0, 31, false), BAD);
        due("nothing is seen", x.count(6), 0);
        due("see in 15, of 4, behind 30", x.see(15, 4, 30, false), 1);
        due("see in 0, of 0, behind 0", x.see(0, 0, 0, true), 2);
    }

    private static void seenTwice() {
        NewsDraughts x = laid("g1,2;n0,1,0;");
        due("seen", x.see(0, 0, 0, true), 1);
        due("seen once more", x.see(0, 0, 0, true), 2);
        due("it is so", x.began(0), 1);
        due("the contrary is seen", x.see(0, 0, 0, false), 3);
        due("both can't be", x.began(0), 0);
        due("by no wind", x.blew(), 0);
    }

    private static void forgotten() {
        NewsDraughts x = laid("g1,2;n0,1,0;");
        due("forget nothing", x.forget(), 0);
        x.see(1, 0, 0, true);
        due("forget one", x.forget(), 1);
        due("forget nothing again", x.forget(), 0);
        due("began, when forgotten", x.began(0), 3);
        due("blew, when forgotten", x.blew(), 31);
        due("forgetting is not undone", x.undo(), NO);
    }

    // ---- BEGAN

    private static void beganByNothing() {
        due("began of 16", laid("g4,4;n0,1,0;").began(0), 65535);
        due("began of one", laid("g1,1;n0,1,0;").began(0), 1);
        NewsDraughts x = laid("g1,2;n0,1,0;n0,1,0;n0,1,0;n0,1,0;n0,1,1;");
        for (int n = 0; n < 5; n++) due("began " + n, x.began(n), 3);
        for (int wrong : WILD) due("began " + wrong, x.began(wrong), BAD);
        due("began 5", x.began(5), BAD);
    }

    private static void beganNow() {
        for (int h = 0; h < 16; h++) {
            NewsDraughts x = laid("g4,4;n0,1,3;");
            x.see(h, 0, 0, true);
            due("now it knows " + h, x.began(0), 1 << h);
            x.forget();
            x.see(h, 0, 0, false);
            due("now it does not " + h, x.began(0), 65535 & ~(1 << h));
        }
    }

    private static void beganThirty() {
        NewsDraughts x = laid(THIRTY);
        x.see(11, 0, 30, true);
        due("began: behind 30", x.began(0), 4095);
        x.see(11, 0, 29, false);
        due("began: behind 30, not 29", x.began(0), 1);
        x.see(0, 0, 0, false);
        due("began: not at 0", x.began(0), 0);
    }

    private static void beganOfTheseNews() {
        NewsDraughts x = laid("g1,4;n0,1,0;n0,2,3;n0,3,1;w2;");
        x.see(2, 0, 1, true);
        x.see(2, 1, 1, true);
        x.see(2, 2, 1, true);
        due("began: light ones", x.began(0), 2 | 4);
        due("began: heavy ones just so", x.began(1), 2 | 4);
        due("began: too heavy ones", x.began(2), 4);
        x.see(1, 0, 0, false);
        due("began: seen of the first news", x.began(0), 4);
        due("began: not of the second", x.began(1), 2 | 4);
        due("who knows stays", whoKnows(x, 1), 8);
    }

    /** "from how it stands when that is asked", and "the only one": what it knows by now counts for nothing. */
    private static void beganAsItStands() {
        NewsDraughts x = laid("g1,3;n0,1,0;w4;w2;");
        x.see(1, 0, 1, true);
        due("began: left", x.began(0), 2 | 4);
        x.step(1);
        due("began: right", x.began(0), 1 | 2);
        x.open(1, 0);
        due("began: stuffed", x.began(0), 2);
        x.tell(2, 0);
        due("began: whoever was told", x.began(0), 2);
        x.undo();
        x.undo();
        x.undo();
        due("began: undone", x.began(0), 2 | 4);
    }

    // ---- BLEW: "WINDS (bits 0 to 4)"

    private static void blewByNothing() {
        NewsDraughts x = laid("g1,1;n0,1,0;");
        due("blew: nothing seen", x.blew(), 31);
        x.see(0, 0, 30, true);
        due("blew: whatever the wind", x.blew(), 31);
        x.see(0, 0, 0, false);
        due("blew: not so now", x.blew(), 0);
    }

    private static void blewEach() {
        int[] beside = {1, 5, 7, 3};
        for (int wind = 1; wind <= 4; wind++) {
            NewsDraughts x = laid("g3,3;n0,1,4;");
            x.see(beside[wind - 1], 0, 1, true);
            due("blew: all sides or " + wind, x.blew(), 1 | 1 << wind);
            x.see(beside[wind % 4], 0, 1, false);
            due("blew: " + wind, x.blew(), 1 << wind);
            x.see(beside[wind % 4], 0, 2, true);
            due("blew: then from all sides", x.blew(), 1 << wind);
        }
        NewsDraughts all = laid("g3,3;n0,1,4;w1;");
        all.see(1, 0, 1, true);
        all.see(7, 0, 1, true);
        due("blew: from all sides alone", all.blew(), 1);
        all.forget();
        all.see(4, 0, 0, true);
        all.see(1, 0, 0, false);
        due("blew: now, whatever the wind", all.blew(), 31);
    }

    private static void blewThirty() {
        NewsDraughts x = laid(THIRTY);
        x.see(11, 0, 30, true);
        due("blew: behind 30", x.blew(), 31);
        x.forget();
        x.see(11, 0, 29, true);
        due("blew: behind 29", x.blew(), 0b00101);
        x.forget();
        x.see(11, 0, 24, true);
        due("blew: behind 24", x.blew(), 0b00101);
        x.forget();
        x.see(11, 0, 23, true);
        due("blew: behind 23", x.blew(), 0);
    }

    private static void blewTheNextStepAlone() {
        NewsDraughts x = laid("g1,4;n0,1,0;w4;");
        x.see(2, 0, 30, true);
        due("blew: one wind is told, and stays behind the next step", x.blew(), 0);
        x.forget();
        x.see(1, 0, 30, true);
        due("blew: one wind is told, but for the next step", x.blew(), 0b00101);
        due("the wind stays", x.wind(0), 4);
        NewsDraughts round = laid("g1,4;n0,1,0;w4;w1;");
        round.see(1, 0, 3, true);
        due("blew: when the first comes again, as told", round.blew(), 0b00101);
        round.see(2, 0, 3, false);
        due("blew: not by it again", round.blew(), 0b00101);
    }

    private static void blewAsItStands() {
        NewsDraughts x = laid("g1,3;n0,1,0;n0,1,2;w2;");
        x.see(1, 0, 1, true);
        due("blew: right", x.blew(), 0b00101);
        x.see(1, 1, 1, true);
        due("blew: both ways", x.blew(), 0b00001);
        x.open(1, 0);
        due("blew: stuffed", x.blew(), 0);
        x.tell(1, 0);
        x.tell(1, 1);
        due("blew: told", x.blew(), 31);
        for (int i = 0; i < 3; i++) x.undo();
        due("blew: undone", x.blew(), 0b00001);
    }

    // ---- GUSTS: "n (0 to 4) STEPS"

    private static void chance(NewsDraughts x, int h, int steps, int above, int below) {
        due("gusts: above, house " + h + " behind " + steps, x.gusts(h, 0, steps, 0), above);
        due("gusts: below, house " + h + " behind " + steps, x.gusts(h, 0, steps, 1), below);
    }

    private static void gustsOfNoStep() {
        NewsDraughts x = laid("g1,2;n0,1,0;");
        chance(x, 0, 0, 1, 1);
        chance(x, 1, 0, 0, 1);
        x.tell(1, 0);
        chance(x, 1, 0, 1, 1);
    }

    private static void gustsOfFour() {
        for (String winds : new String[] {"", "w0;", "w2;", "w4;w1;"}) {
            NewsDraughts x = laid("g1,4;n0,1,0;" + winds);
            chance(x, 1, 1, 1, 4);
            chance(x, 1, 2, 7, 16);
            chance(x, 1, 3, 37, 64);
            chance(x, 1, 4, 175, 256);
            chance(x, 2, 3, 5, 32);
            chance(x, 3, 4, 13, 256);
            chance(x, 3, 3, 1, 64);
            chance(x, 3, 2, 0, 1);
        }
        for (int h : new int[] {1, 3, 5, 7}) chance(laid("g3,3;n0,1,4;"), h, 1, 1, 4);
        for (int h : new int[] {0, 2, 6, 8}) chance(laid("g3,3;n0,1,4;"), h, 2, 1, 8);
        NewsDraughts two = laid("g1,3;n0,1,0;");
        two.tell(2, 0);
        chance(two, 1, 1, 1, 2);
        chance(two, 1, 2, 3, 4);
        chance(two, 1, 4, 15, 16);
    }

    private static void gustsAlways() {
        NewsDraughts x = laid("g1,3;h2,0,0;n0,1,0;");
        for (int steps = 0; steps <= 4; steps++) {
            chance(x, 0, steps, 1, 1);
            chance(x, 2, steps, 0, 1);
        }
        NewsDraughts around = laid("g3,3;n0,1,1;");
        for (int h : new int[] {3, 5, 7}) around.tell(h, 0);
        for (int steps = 1; steps <= 4; steps++) chance(around, 4, steps, 1, 1);
        due("nothing changes", around.house(4, 2), 0);
    }

    private static void gustsNumbers() {
        NewsDraughts x = laid("g1,4;n0,1,0;");
        for (int wrong : WILD) {
            due("gusts in " + wrong, x.gusts(wrong, 0, 1, 0), BAD);
            due("gusts of " + wrong, x.gusts(0, wrong, 1, 0), BAD);
            due("gusts behind " + wrong, x.gusts(0, 0, wrong, 0), BAD);
            due("gusts, part " + wrong, x.gusts(0, 0, 1, wrong), BAD);
        }
        due("gusts in 4", x.gusts(4, 0, 1, 0), BAD);
        due("gusts of 1", x.gusts(0, 1, 1, 0), BAD);
        due("gusts behind 5", x.gusts(0, 0, 5, 0), BAD);
        due("gusts, part 2", x.gusts(0, 0, 1, 2), BAD);
    }

    // ---- A YEAR: "z (0 to 9999)", "n (1 to 60) STEPS"

    private static int draw(int z, int k) {
        long x = 7919L * z + 6151L * k + 1;
        return (int) (x * x % 65521 / 2);
    }

    /** Four draws by hand: house 0 by 0, of two houses 1 by 1, 1 by 5, 1 by 0. */
    private static void yearByDraws() {
        due("draw of 1", draw(0, 0), 0);
        due("draw of 6152", draw(0, 1), 20743);
        due("draw of 7920", draw(1, 0), 11401);
        due("draw of 79182082", draw(9999, 0), 25651);
        NewsDraughts x = laid("g1,2;n0,1,1;");
        due("year 0: house 0 is stuffed", x.year(0, 1, 1), 0);
        due("year 0: one knows", x.year(0, 1, 0), 1);
        NewsDraughts y = laid("g1,2;n0,4,0;n0,1,0;");
        due("year 0: house 1 is open by 2", y.year(0, 1, 1), 1);
        due("year 0: then by 1", y.year(0, 2, 1), 1);
        due("year 1: house 1 by 5", y.year(1, 1, 1), 2);
        due("year 1: both know", y.year(1, 1, 0), 2);
        due("year 9999: house 1 is stuffed", y.year(9999, 1, 1), 0);
        due("year 9999: one knows", y.year(9999, 1, 0), 1);
    }

    /** A year is what opening by the draws and stepping would do. */
    private static void yearByOpeningAndSteps() {
        String[] texts = {
            "g4,4;h3,1,2;h6,4,3;h9,2,1;h10,3,6;n0,1,0;n2,4,15;n1,2,6;n2,3,3;n0,4,12;w1;w2;w3;w4;w0;",
            "g3,3;h4,1,0;n0,1,4;n2,4,4;w2;w3;w4;w1;w1;w2;w3;", "g1,4;n0,2,1;n1,3,2;", "g1,1;n0,1,0;"
        };
        for (String text : texts) {
            for (int z : new int[] {0, 1, 9998, 9999}) {
                for (int n : new int[] {1, 2, 59, 60}) yearIs(text, z, n);
            }
        }
    }

    private static void yearIs(String text, int z, int n) {
        NewsDraughts asked = laid(text);
        NewsDraughts done = laid(text);
        asked.step(3);
        done.step(3);
        int before = knowings(done);
        for (int k = 0; k < n; k++) {
            done.open(draw(z, k) % done.count(0), draw(z, k) / 16 % 7);
            done.step(1);
        }
        String was = look(asked);
        due("year " + z + " of " + n + ", houses, " + text, asked.year(z, n, 0), done.count(5));
        due("year " + z + " of " + n + ", how often, " + text, asked.year(z, n, 1), knowings(done) - before);
        same("nothing changes by a year", look(asked), was);
    }

    private static int knowings(NewsDraughts x) {
        int sum = 0;
        for (int n = 0; n < x.count(2); n++) sum += x.news(n, 3);
        return sum;
    }

    private static void yearNumbers() {
        NewsDraughts x = laid("g1,1;n0,1,0;");
        for (int wrong : WILD) {
            due("year by " + wrong, x.year(wrong, 1, 0), BAD);
            due("year of " + wrong, x.year(0, wrong, 0), BAD);
            due("year, what " + wrong, x.year(0, 1, wrong), BAD);
        }
        due("year by 10000", x.year(10000, 1, 0), BAD);
        due("year by 9999", x.year(9999, 1, 0), 1);
        due("year by 0", x.year(0, 1, 0), 1);
        due("year of 61", x.year(0, 61, 0), BAD);
        due("year of 60", x.year(0, 60, 0), 1);
        due("year of 1", x.year(0, 1, 0), 1);
        due("year of 0", x.year(0, 0, 0), BAD);
        due("year, what 1", x.year(0, 1, 1), 0);
        due("year, what 2", x.year(0, 1, 2), BAD);
    }

    // ---- KEPT: "2 at most"

    private static void keptTwo() {
        NewsDraughts x = laid("g1,2;n0,1,0;");
        due("back to nothing", x.back(), NO);
        due("keep the first", x.keep(), 1);
        x.open(1, 5);
        due("keep the second", x.keep(), 2);
        x.step(3);
        String was = look(x);
        due("keep the third", x.keep(), FULL);
        due("keep the third again", x.keep(), FULL);
        same("nothing changes when full", look(x), was);
        due("back to the second", x.back(), 1);
        due("its steps", x.count(4), 0);
        due("its sash", x.house(1, 1), 5);
        due("who knows there", x.house(1, 2), 0);
        due("back to the first", x.back(), 0);
        due("its sash, as it was", x.house(1, 1), 2);
        was = look(x);
        due("back to none", x.back(), NO);
        same("nothing changes when none", look(x), was);
        x.keep();
        x.open(0, 6);
        x.undo();
        due("what is kept is not undone", x.count(8), 1);
    }

    private static void keptRoundAndRound() {
        NewsDraughts x = laid("g1,1;n0,1,0;");
        for (int round = 0; round < 5; round++) {
            int steps = x.count(4);
            due("round " + round + ", keep", x.keep(), 1);
            x.step(1);
            due("round " + round + ", keep again", x.keep(), 2);
            x.step(2);
            due("round " + round + ", keep once more", x.keep(), FULL);
            due("round " + round + ", back", x.back(), 1);
            due("round " + round + ", steps", x.count(4), steps + 1);
            x.step(5);
            due("round " + round + ", keep instead", x.keep(), 2);
            x.step(7);
            due("round " + round + ", back to it", x.back(), 1);
            due("round " + round + ", its steps", x.count(4), steps + 6);
            due("round " + round + ", back to the first", x.back(), 0);
            due("round " + round + ", its steps then", x.count(4), steps);
            due("round " + round + ", no more", x.back(), NO);
            x.step(1 + round);
        }
    }

    private static void keptButNotSeen() {
        NewsDraughts x = laid("g1,3;n0,1,0;w2;w3;");
        x.see(0, 0, 0, true);
        x.see(2, 0, 30, true);
        for (int i = 0; i < 8; i++) x.open(2, i % 6);
        x.keep();
        due("keep: what can be undone stays", x.count(7), 8);
        due("keep: it is undone", x.undo(), 7);
        x.forget();
        x.see(1, 0, 0, true);
        x.wipe();
        write(x, "abc");
        x.step(1);
        x.tell(2, 0);
        due("back", x.back(), 0);
        due("back: nothing can be undone", x.count(7), 0);
        due("back: undo", x.undo(), NO);
        due("back: what is seen stays", x.count(6), 1);
        due("back: it is what was seen last", x.began(0), 2);
        due("back: the text stays", x.count(9), 3);
        due("back: steps", x.count(4), 0);
        due("back: wind", x.wind(0), 2);
        due("back: who knows", whoKnows(x, 0), 1);
        due("back: sash", x.house(2, 1), 1);
        x.step(1);
        due("back: a new step is undone", x.undo(), 0);
    }

    // ---- count

    private static void counted() {
        NewsDraughts x = new NewsDraughts();
        for (int wrong : WILD) due("count " + wrong, x.count(wrong), BAD);
        due("count 10", x.count(10), BAD);
        due("count 11", x.count(11), BAD);
        due("count 9", x.count(9), 0);
        due("count 0", x.count(0), 12);
    }

    private static void countedAtMost() {
        NewsDraughts x = laid("g4,4;n0,1,0;n0,1,0;n0,1,0;n0,1,0;n0,1,0;w1;w1;w1;w1;w1;w1;w1;w0;");
        fill(x, ' ');
        for (int i = 0; i < 9; i++) x.step(24);
        for (int i = 0; i < 7; i++) x.see(0, 0, 0, true);
        for (int i = 0; i < 3; i++) x.keep();
        x.write(' ');
        int[] most = {16, 4, 5, 8, 216, 16, 6, 8, 2, 200};
        for (int what = 0; what < most.length; what++) due("count at most " + what, x.count(what), most[what]);
    }

    private static void countedAtLeast() {
        NewsDraughts x = laid("g1,1;n0,1,0;");
        x.wipe();
        int[] least = {1, 1, 1, 1, 0, 1, 0, 0, 0, 0};
        for (int what = 0; what < least.length; what++) due("count at least " + what, x.count(what), least[what]);
        NewsDraughts told = laid("g1,1;n0,1,0;w0;");
        due("one wind told", told.count(3), 1);
        NewsDraughts two = laid("g2,1;n0,1,0;w0;w0;");
        due("two winds told", two.count(3), 2);
        due("two rows", two.count(1), 2);
        due("one knows", two.count(5), 1);
        two.tell(1, 0);
        due("two know", two.count(5), 2);
    }
}
