import java.util.ArrayList;
import java.util.List;

/** Section 2 of the document and promises 9 to 12, sentence by sentence, at the edges that each names. */
public final class StepEdgesTest extends Trial {
    private static final int GOSSIP = 1, DEAF = 2, HUMMING = 3, PROUD = 4;
    private static final int DEBT = 2;

    public static void main(String[] args) {
        newsKnownWhereTheyBegin();
        oneHouseInAStep();
        besideInEachGrid();
        whoLetsOutAndWhoLetsIn();
        theLessOfTwoNeeds();
        newsByThemselves();
        nobodyForgets();
        stepsAtOnce();
        stepsOneByOne();
        windsThroughManySteps();
        steps512();
        openedBy();
        openedFromNowOn();
        told();
        toldWhoeverItIs();
        undoneOneByOne();
        undoneEight();
        undoneRoundAndRound();
        notUndone();
        checks.end();
    }

    /** "At step 0 who KNOWS NEWS is where they begin, whatever it is open by" */
    private static void newsKnownWhereTheyBegin() {
        for (int kind = 0; kind <= 4; kind++) {
            NewsDraughts x = laid("g1,2;h0," + kind + ",0;n0,4,0;n2,4,0;n1,1,1;");
            due("open by 0, kind " + kind, x.house(0, 2), 3);
            due("the other one, kind " + kind, x.house(1, 2), 4);
            due("behind no step, kind " + kind, x.behind(0, 0), 3);
            due("when, kind " + kind, x.when(0, 0), 0);
            due("no step has gone by, kind " + kind, x.count(4), 0);
        }
    }

    /** "by who KNOWS what ahead of it" */
    private static void oneHouseInAStep() {
        NewsDraughts x = laid("g1,4;n0,1,0;");
        int[] sets = {1, 3, 7, 15, 15};
        for (int s = 0; s < sets.length; s++) {
            due("from all sides, behind " + s, whoKnows(x, 0), sets[s]);
            x.step(1);
        }
        NewsDraughts back = laid("g1,4;n0,1,3;w4;");
        int[] leftSets = {8, 12, 14, 15, 15};
        for (int s = 0; s < leftSets.length; s++) {
            due("left, behind " + s, whoKnows(back, 0), leftSets[s]);
            back.step(1);
        }
        NewsDraughts square = laid("g4,4;n0,1,0;w3;");
        due("down, behind 1", square.behind(1, 4) * 10 + square.behind(1, 8), 10);
        due("down, behind 2", square.behind(2, 8) * 10 + square.behind(2, 12), 10);
        due("down, behind 3", square.behind(3, 12), 1);
        square.step(24);
        due("down, and nowhere else", whoKnows(square, 0), 0x1111);
    }

    /** "to the one beside it toward which the WIND blows (to all four beside it, if from all sides)" */
    private static void besideInEachGrid() {
        for (int rows = 1; rows <= 4; rows++) {
            for (int columns = 1; columns <= 4; columns++) {
                for (int wind = 0; wind <= 4; wind++) {
                    for (int h = 0; h < rows * columns; h++) {
                        String text = "g" + rows + "," + columns + ";n0,1," + h + ";w" + wind + ";";
                        NewsDraughts x = laid(text);
                        x.step(1);
                        due("one step of " + text, whoKnows(x, 0), 1 << h | beside(rows, columns, h, wind));
                    }
                }
            }
        }
    }

    private static int beside(int rows, int columns, int h, int wind) {
        int row = h / columns, column = h % columns;
        boolean all = wind == 0;
        int set = 0;
        if ((all || wind == 1) && row > 0) set |= 1 << (h - columns);
        if ((all || wind == 2) && column < columns - 1) set |= 1 << (h + 1);
        if ((all || wind == 3) && row < rows - 1) set |= 1 << (h + columns);
        if ((all || wind == 4) && column > 0) set |= 1 << (h - 1);
        return set;
    }

    /** Each kind beside each, news of each kind and weight, each width: the least width that is told, and one less. */
    private static void whoLetsOutAndWhoLetsIn() {
        for (int from = 0; from <= 4; from++) {
            for (int to = 0; to <= 4; to++) {
                for (int kind = 0; kind <= 2; kind++) {
                    for (int heavy = 1; heavy <= 4; heavy++) letsIn(from, to, kind, heavy);
                }
            }
        }
    }

    private static void letsIn(int from, int to, int kind, int heavy) {
        boolean out = from != HUMMING && !(from == PROUD && kind == DEBT);
        int least = heavy;
        if (from == GOSSIP) least--;
        if (to == DEAF) least++;
        if (least == 0) least = 1;
        NewsDraughts x = laid("g1,2;h0," + from + ",0;h1," + to + ",0;n" + kind + "," + heavy + ",0;w2;");
        for (int width = 0; width <= 6; width++) {
            x.open(1, width);
            String call = "kind " + from + " to " + to + ", news " + kind + " " + heavy + ", open by " + width;
            due(call, x.behind(1, 1), out && width >= least ? 1 : 0);
        }
    }

    private static void theLessOfTwoNeeds() {
        NewsDraughts x = laid("g1,3;h0,1,0;h1,0,2;n0,3,0;");
        x.tell(2, 0);
        due("a gossip and a plain one beside it, by 1 less", x.behind(1, 1), 1);
        x.open(1, 1);
        due("a gossip and a plain one beside it, by 2 less", x.behind(1, 1), 0);
        x.open(1, 3);
        due("a gossip and a plain one beside it, wide enough", x.behind(1, 1), 1);
        NewsDraughts y = laid("g1,3;h0,3,0;h1,0,2;h2,4,0;n2,2,0;n1,2,2;");
        y.tell(2, 0);
        due("a humming one and a proud one beside it", y.behind(48, 1), 2);
        due("the humming one hears", y.behind(48, 0), 1);
        y.open(0, 2);
        due("the humming one is open by as much, and hears what passes on", y.behind(48, 0), 3);
    }

    private static void newsByThemselves() {
        NewsDraughts x = laid("g1,3;h1,0,2;n0,1,0;n0,2,0;n0,3,0;n2,4,2;n0,1,2;");
        x.step(1);
        due("five news by themselves", x.house(1, 2), 1 | 2 | 16);
        x.step(1);
        due("five news by themselves, on one side", x.house(0, 2), 1 | 2 | 4 | 16);
        due("five news by themselves, on the other", x.house(2, 2), 1 | 2 | 8 | 16);
        for (int n = 0; n < 5; n++) due("houses that know " + n, x.news(n, 3), n == 2 || n == 3 ? 1 : 3);
        due("houses that know something", x.count(5), 3);
    }

    /** "Nobody forgets", and who knows lets out, whatever it is open by */
    private static void nobodyForgets() {
        NewsDraughts x = laid("g1,4;n0,1,0;w2;");
        x.step(1);
        x.open(0, 0);
        x.open(1, 0);
        due("stuffed, and knows", whoKnows(x, 0), 3);
        x.step(1);
        due("stuffed, and lets out", whoKnows(x, 0), 7);
        x.open(3, 0);
        x.step(24);
        due("stuffed, and hears no more", whoKnows(x, 0), 7);
        for (int i = 0; i < 10; i++) x.step(24);
        due("nobody forgets", whoKnows(x, 0), 7);
    }

    // ---- step

    private static void stepsAtOnce() {
        NewsDraughts x = new NewsDraughts();
        for (int wrong : new int[] {0, -1, 25, 26, Integer.MIN_VALUE, Integer.MAX_VALUE}) {
            due("step " + wrong, x.step(wrong), BAD);
        }
        due("no step has gone by", x.count(4), 0);
        due("step 1", x.step(1), 1);
        due("step 24", x.step(24), 25);
        due("step 2", x.step(2), 27);
        due("steps gone by", x.count(4), 27);
        due("three can be undone", x.count(7), 3);
    }

    private static void stepsOneByOne() {
        for (int n : new int[] {2, 3, 23, 24}) {
            NewsDraughts one = new NewsDraughts();
            NewsDraughts all = new NewsDraughts();
            for (int i = 0; i < n; i++) one.step(1);
            all.step(n);
            for (int h = 0; h < 12; h++) due("house " + h + " behind " + n, all.house(h, 2), one.house(h, 2));
            due("steps gone by, at once", all.count(4), n);
            due("wind behind " + n, all.wind(0), one.wind(0));
        }
    }

    /** "behind the last one the first again": the step behind the last wind blows by the first one. */
    private static void windsThroughManySteps() {
        NewsDraughts x = laid("g4,4;n0,1,0;w2;w3;w1;");
        int[] sets = {0x1, 0x3, 0x33, 0x33, 0x77, 0x777, 0x777, 0xfff, 0xffff, 0xffff};
        for (int s = 0; s < sets.length; s++) {
            due("right, down, up: behind " + s, whoKnows(x, 0), sets[s]);
            x.step(1);
        }
        NewsDraughts eight = laid("g1,3;n0,1,0;w1;w1;w1;w1;w1;w1;w1;w2;");
        eight.step(7);
        due("ahead of the eighth", whoKnows(eight, 0), 1);
        eight.step(1);
        due("by the eighth", whoKnows(eight, 0), 3);
        eight.step(7);
        due("ahead of the sixteenth", whoKnows(eight, 0), 3);
        eight.step(1);
        due("by the sixteenth", whoKnows(eight, 0), 7);
    }

    /** "at most 512 calls": the last ones of these, as far on as steps can go. */
    private static void steps512() {
        NewsDraughts x = laid("g1,2;n0,1,0;w1;w3;w2;");
        int calls = 22;
        for (; calls < 508; calls++) x.step(24);
        due("steps, by call 509", x.count(4), 486 * 24);
        due("step, by call 510", x.step(23), 486 * 24 + 23);
        due("wind, by call 511", x.wind(99), 2);
        due("undo, by call 512", x.undo(), 7);
    }

    // ---- open

    private static void openedBy() {
        NewsDraughts x = laid("g4,4;n0,1,0;");
        for (int wrong : new int[] {-1, 7, 8, Integer.MIN_VALUE, Integer.MAX_VALUE}) {
            due("open the first by " + wrong, x.open(0, wrong), BAD);
            due("open the last by " + wrong, x.open(15, wrong), BAD);
            due("open one that is none by " + wrong, x.open(16, wrong), BAD);
        }
        for (int wrong : new int[] {-1, 16, 17, Integer.MIN_VALUE, Integer.MAX_VALUE}) {
            due("open " + wrong, x.open(wrong, 0), BAD);
        }
        due("the first one stays", x.house(0, 1), 2);
        due("the last one stays", x.house(15, 1), 2);
        due("nothing is undone", x.undo(), NO);
        int was = 2;
        for (int o = 0; o <= 6; o++) {
            due("the first one by " + o, x.open(0, o), was);
            due("the last one by " + o, x.open(15, o), was);
            due("the first one is open by " + o, x.house(0, 1), o);
            due("the last one is open by " + o, x.house(15, 1), o);
            due("the second one stays", x.house(1, 1), 2);
            was = o;
        }
        due("by as much as it is", x.open(15, 6), 6);
        due("eight can be undone", x.count(7), 8);
        due("this is one of them", x.undo(), 7);
        due("by as much as it was", x.house(15, 1), 6);
    }

    private static void openedFromNowOn() {
        NewsDraughts x = laid("g1,3;h1,0,0;n0,1,0;");
        x.step(5);
        x.open(1, 1);
        due("what blew by is gone by", whoKnows(x, 0), 1);
        x.step(1);
        due("it comes in from now on", whoKnows(x, 0), 3);
        x.open(1, 0);
        x.step(1);
        due("and goes on", whoKnows(x, 0), 7);
    }

    // ---- tell

    private static void told() {
        NewsDraughts x = laid("g4,4;n0,4,0;n2,4,15;n1,1,3;n1,1,3;n1,1,3;");
        for (int wrong : new int[] {-1, 16, Integer.MIN_VALUE, Integer.MAX_VALUE}) {
            due("tell in " + wrong, x.tell(wrong, 0), BAD);
            due("tell none in " + wrong, x.tell(wrong, 5), BAD);
        }
        for (int wrong : new int[] {-1, 5, 6, Integer.MIN_VALUE, Integer.MAX_VALUE}) {
            due("tell " + wrong, x.tell(1, wrong), BAD);
            due("tell one that knows " + wrong, x.tell(0, wrong), BAD);
        }
        due("tell where they begin", x.tell(0, 0), NO);
        due("tell where they begin, the last one", x.tell(15, 1), NO);
        due("nothing is undone", x.undo(), NO);
        due("tell the last one", x.tell(15, 0), 2);
        due("tell the first one", x.tell(0, 1), 2);
        due("tell the last news", x.tell(0, 4), 2);
        due("the first one knows", x.house(0, 2), 1 | 2 | 16);
        due("the last one knows", x.house(15, 2), 1 | 2);
        due("others do not", x.house(14, 2), 0);
        due("told already", x.tell(15, 0), NO);
        due("three are undone", x.count(7), 3);
        NewsDraughts all = laid("g4,4;n0,1,0;");
        for (int h = 1; h < 16; h++) due("tell all, " + h, all.tell(h, 0), h + 1);
        for (int h = 0; h < 16; h++) due("all know, " + h, all.tell(h, 0), NO);
        NewsDraughts blown = laid("g1,2;n0,1,0;");
        blown.step(1);
        due("it knows by the wind", blown.tell(1, 0), NO);
        due("undone: it does not", blown.undo(), 0);
        due("then it is told", blown.tell(1, 0), 2);
    }

    private static void toldWhoeverItIs() {
        for (int kind = 0; kind <= 4; kind++) {
            NewsDraughts x = laid("g1,2;h1," + kind + ",0;n2,4,0;");
            due("told, open by 0, kind " + kind, x.tell(1, 0), 2);
            due("it knows, kind " + kind, x.house(1, 2), 1);
            due("begin as ever, kind " + kind, x.news(0, 2), 0);
        }
    }

    // ---- undo

    private static void undoneOneByOne() {
        NewsDraughts x = laid("g1,4;n0,1,0;w2;");
        due("undo: nothing yet", x.undo(), NO);
        String first = look(x);
        x.step(24);
        due("one can be undone", x.count(7), 1);
        due("all 24 together", x.undo(), 0);
        same("as it stood ahead of 24 steps", look(x), first);
        x.open(3, 0);
        due("opening", x.undo(), 0);
        same("as it stood ahead of opening", look(x), first);
        x.tell(3, 0);
        due("telling", x.undo(), 0);
        same("as it stood ahead of telling", look(x), first);
        due("no more", x.undo(), NO);
        due("no more, again", x.undo(), NO);
        x.step(1);
        x.step(1);
        due("the latest step alone", x.undo(), 1);
        due("one step stays", x.count(4), 1);
        due("its wind", x.behind(1, 2), 1);
    }

    /** "(the last 8 can be)": of nine the first one stays. */
    private static void undoneEight() {
        NewsDraughts x = laid("g1,1;n0,1,0;");
        for (int i = 1; i <= 8; i++) {
            x.step(i);
            due("can be undone, of " + i, x.count(7), i);
        }
        for (int i = 7; i >= 0; i--) due("undone of eight", x.undo(), i);
        due("eight undone", x.undo(), NO);
        due("eight undone: step 0", x.count(4), 0);
        for (int i = 1; i <= 9; i++) x.step(i);
        due("can be undone, of nine", x.count(7), 8);
        for (int i = 7; i >= 0; i--) due("undone of nine", x.undo(), i);
        due("the ninth", x.undo(), NO);
        due("the first one of nine stays", x.count(4), 1);
    }

    /** A stack of the test's own tells how it has to stand, through many more than eight. */
    private static void undoneRoundAndRound() {
        NewsDraughts x = laid("g1,1;n0,1,0;");
        List<Integer> steps = new ArrayList<>();
        int[] undone = {3, 0, 8, 1, 7, 8, 2, 5};
        for (int round = 0; round < 8; round++) {
            for (int i = 0; i < 5 + round; i++) {
                steps.add(x.count(4));
                if (steps.size() > 8) steps.remove(0);
                x.step(1 + (i + round) % 24);
            }
            for (int i = 0; i < undone[round]; i++) {
                int left = steps.size() - 1;
                due("round " + round + " undone " + i, x.undo(), left < 0 ? NO : left);
                if (left >= 0) due("round " + round + " steps " + i, x.count(4), steps.remove(left));
            }
        }
    }

    private static void notUndone() {
        NewsDraughts x = laid("g1,2;n0,1,0;");
        x.write('g');
        x.see(0, 0, 0, true);
        x.keep();
        x.forget();
        x.wipe();
        x.fault();
        due("writing, seeing and keeping is not undone", x.undo(), NO);
        due("it is still kept", x.count(8), 1);
        x.open(0, 5);
        x.step(0);
        x.open(0, 7);
        x.tell(0, 0);
        x.keep();
        x.keep();
        due("nor what is refused", x.count(7), 1);
        due("opening is", x.undo(), 0);
        due("opened as it was", x.house(0, 1), 2);
        due("still kept", x.count(8), 2);
        x.open(0, 5);
        x.lay();
        due("not laid, as the text is empty", x.count(7), 1);
        x.back();
        due("behind back", x.undo(), NO);
        x.open(1, 5);
        due("behind back, again", x.undo(), 0);
        due("no more", x.undo(), NO);
        write(x, "n0,1,0;");
        x.open(1, 5);
        x.lay();
        due("behind lay", x.undo(), NO);
    }
}
