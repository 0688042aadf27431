/** Section 3 of the document and promises 13 to 19, sentence by sentence, at the edges that each names. */
public final class AheadEdgesTest extends Trial {
    /**
     * From 12 right to 15, then up to 3, one house in 8 steps: 3 hears behind 48 STEPS, and 2, left of it by the
     * next wind, behind 49.
     */
    private static final String JUST_IN_TIME =
        "g4,4;h4,0,0;h5,0,0;h6,0,0;h8,0,0;h9,0,0;h10,0,0;n0,1,12;w4;w3;w3;w3;w3;w3;w3;w0;";
    /** 1 hears behind 6 STEPS, 2 behind 12. */
    private static final String TWELVE = "g1,3;n0,1,0;w4;w4;w4;w4;w4;w2;";
    private static final int[] WILD = {Integer.MIN_VALUE, -2, -1, 100, 65536, Integer.MAX_VALUE};

    public static void main(String[] args) {
        behindSteps();
        behindAsBits();
        whenFirst();
        whenJustInTime();
        lastOfThoseThatHear();
        lastOfSeveral();
        lastJustInTime();
        cutHowMany();
        cutNone();
        cutTheLowest();
        cutOthersAlone();
        cutJustInTime();
        openingsNone();
        openingsOne();
        openingsTwo();
        openingsThree();
        openingsInOrder();
        openingsByEachWidth();
        openingsSteps();
        openingsSets();
        openingsNumbers();
        bearsWidest();
        bearsNone();
        bearsJustInTime();
        bearsNumbers();
        quarrelAboutOneHouse();
        quarrelTheLowest();
        quarrelAtTheWidest();
        quarrelSteps();
        quarrelNumbers();
        checks.end();
    }

    // ---- "BEHIND n STEPS (0 to 48)"

    private static void behindSteps() {
        NewsDraughts x = laid(JUST_IN_TIME);
        due("behind -1", x.behind(-1, 12), BAD);
        due("behind 0", x.behind(0, 12), 1);
        due("behind 0, elsewhere", x.behind(0, 13), 0);
        due("behind 7", x.behind(7, 13), 0);
        due("behind 8", x.behind(8, 13), 1);
        due("behind 47", x.behind(47, 3), 0);
        due("behind 48", x.behind(48, 3), 1);
        due("behind 48, the next one", x.behind(48, 2), 0);
        due("behind 49", x.behind(49, 3), BAD);
        due("behind 49, the next one", x.behind(49, 2), BAD);
        for (int wrong : WILD) {
            due("behind " + wrong, x.behind(wrong, 0), BAD);
            due("behind 0 in " + wrong, x.behind(0, wrong), BAD);
        }
        due("behind 0 in 15", x.behind(0, 15), 0);
        due("behind 0 in 16", x.behind(0, 16), BAD);
        x.step(1);
        due("behind 48, one step on", x.behind(48, 2), 1);
    }

    private static void behindAsBits() {
        NewsDraughts x = laid("g1,3;h2,0,3;n0,1,0;n0,2,0;n0,3,0;n0,4,0;n0,1,1;");
        due("no news", x.behind(0, 2), 0);
        due("the fifth", x.behind(1, 2), 16);
        due("the first and the second, too", x.behind(2, 2), 1 | 2 | 16);
        due("where four begin", x.behind(0, 0), 15);
        due("where four begin, all", x.behind(1, 0), 31);
        due("all of five stay", x.behind(48, 0), 31);
    }

    // ---- "WHEN: behind how many STEPS (0 to 48) a HOUSE KNOWS NEWS first; none"

    private static void whenFirst() {
        NewsDraughts x = laid("g1,4;h3,0,0;n0,1,0;n0,3,1;");
        int[] first = {0, 1, 2, NONE};
        int[] second = {NONE, 0, NONE, NONE};
        for (int h = 0; h < 4; h++) {
            due("when " + h, x.when(h, 0), first[h]);
            due("when too heavy " + h, x.when(h, 1), second[h]);
        }
        x.tell(3, 0);
        due("when told", x.when(3, 0), 0);
        due("when from the other side", x.when(2, 0), 1);
        x.step(1);
        due("when it knows, one step on", x.when(2, 0), 0);
        for (int wrong : WILD) {
            due("when in " + wrong, x.when(wrong, 0), BAD);
            due("when of " + wrong, x.when(3, wrong), BAD);
        }
        due("when in 4", x.when(4, 0), BAD);
        due("when of 2", x.when(0, 2), BAD);
    }

    private static void whenJustInTime() {
        NewsDraughts x = laid(JUST_IN_TIME);
        int[] when = {NONE, NONE, NONE, 48, NONE, NONE, NONE, 40, NONE, NONE, NONE, 32, 0, 8, 16, 24};
        for (int h = 0; h < 16; h++) due("when just in time " + h, x.when(h, 0), when[h]);
        x.step(1);
        due("when, one step on", x.when(2, 0), 48);
        due("when, one step on, the one ahead of it", x.when(3, 0), 47);
        x.step(24);
        x.step(23);
        due("when, 48 steps on", x.when(3, 0), 0);
        due("when, 48 steps on, the next one", x.when(2, 0), 1);
    }

    // ---- LAST

    private static void lastOfThoseThatHear() {
        NewsDraughts x = laid("g1,4;h3,0,0;n0,1,1;n0,4,0;");
        due("last: 2 hears with 0", x.last(0, 0), 2);
        due("last: behind 1", x.last(0, 1), 1);
        due("last: nobody else hears", x.last(1, 0), NONE);
        due("last: nobody else hears, when", x.last(1, 1), NONE);
        x.open(2, 0);
        due("last: house 0", x.last(0, 0), 0);
        due("last: house 0, when", x.last(0, 1), 1);
        x.step(1);
        due("last: all know that will", x.last(0, 0), NONE);
        due("last: all know that will, when", x.last(0, 1), NONE);
        due("last: a single house", laid("g1,1;n0,1,0;").last(0, 0), NONE);
        for (int wrong : WILD) {
            due("last of " + wrong, x.last(wrong, 0), BAD);
            due("last, what " + wrong, x.last(0, wrong), BAD);
            due("last of nobody, what " + wrong, x.last(1, wrong), BAD);
        }
        due("last of 2", x.last(2, 0), BAD);
        due("last, what 2", x.last(0, 2), BAD);
    }

    private static void lastOfSeveral() {
        NewsDraughts x = laid("g3,3;n0,1,4;");
        due("last: of four corners the highest", x.last(0, 0), 8);
        due("last: of four corners, when", x.last(0, 1), 2);
        x.open(8, 0);
        due("last: of three corners", x.last(0, 0), 6);
        x.open(6, 0);
        due("last: of two corners", x.last(0, 0), 2);
        x.open(2, 0);
        due("last: of one corner", x.last(0, 0), 0);
        x.open(0, 0);
        due("last: of those beside it the highest", x.last(0, 0), 7);
        due("last: of those beside it, when", x.last(0, 1), 1);
        NewsDraughts late = laid("g1,4;n0,1,2;");
        due("last: the latest, though lower", late.last(0, 0), 0);
        due("last: the latest, when", late.last(0, 1), 2);
    }

    private static void lastJustInTime() {
        NewsDraughts x = laid(JUST_IN_TIME);
        due("last: behind 48", x.last(0, 0), 3);
        due("last: behind 48, when", x.last(0, 1), 48);
        x.open(7, 0);
        due("last: behind 32", x.last(0, 0), 11);
        x.open(7, 2);
        x.step(1);
        due("last: one step on", x.last(0, 0), 2);
        due("last: one step on, when", x.last(0, 1), 48);
    }

    // ---- CUT: "sets of 3 other HOUSES or fewer"

    /** The middle house of nine, with news told in as many of the corners as are needed. */
    private static void cutHowMany() {
        NewsDraughts x = laid("g3,3;n0,1,0;");
        for (int h : new int[] {1, 3, 5, 7}) x.open(h, 0);
        x.tell(8, 0);
        int[] ways = {0, 1 << 1, 1 << 1 | 1 << 3, 1 << 1 | 1 << 3 | 1 << 5};
        int[] opened = {1, 3, 5, 7};
        for (int many = 0; many <= 3; many++) {
            due("cut: how many of " + many, x.cut(4, 0, 0), many);
            due("cut: which of " + many, x.cut(4, 0, 1), ways[many]);
            x.open(opened[many], 1);
        }
        due("cut: four are too many", x.cut(4, 0, 0), NONE);
        due("cut: four are too many, which", x.cut(4, 0, 1), NONE);
        x.open(1, 0);
        due("cut: three of the higher ones", x.cut(4, 0, 1), 1 << 3 | 1 << 5 | 1 << 7);
        due("cut: nothing changes", x.house(3, 1) * 10 + x.house(5, 1), 11);
    }

    private static void cutNone() {
        NewsDraughts x = laid("g1,4;h3,0,0;n0,1,0;");
        due("cut: it knows", x.cut(0, 0, 0), NONE);
        due("cut: it knows, which", x.cut(0, 0, 1), NONE);
        due("cut: beside it", x.cut(1, 0, 0), NONE);
        due("cut: one between", x.cut(2, 0, 0), 1);
        due("cut: never hears", x.cut(3, 0, 0), 0);
        due("cut: never hears, which", x.cut(3, 0, 1), 0);
        for (int wrong : WILD) {
            due("cut in " + wrong, x.cut(wrong, 0, 0), BAD);
            due("cut of " + wrong, x.cut(0, wrong, 0), BAD);
            due("cut, what " + wrong, x.cut(2, 0, wrong), BAD);
            due("cut of one that knows, what " + wrong, x.cut(0, 0, wrong), BAD);
        }
        due("cut in 4", x.cut(4, 0, 0), BAD);
        due("cut of 1", x.cut(0, 1, 0), BAD);
        due("cut, what 2", x.cut(2, 0, 2), BAD);
        due("cut of one that knows, what 2", x.cut(0, 0, 2), BAD);
        due("cut in the last of 16", laid("g4,4;n0,1,13;").cut(15, 0, 1), 1 << 11 | 1 << 14);
        due("cut in a single house", laid("g1,1;n0,1,0;").cut(0, 0, 0), NONE);
    }

    private static void cutTheLowest() {
        NewsDraughts row = laid("g1,4;n0,1,0;");
        due("cut: the lower of two", row.cut(3, 0, 1), 1 << 1);
        NewsDraughts back = laid("g1,4;n0,1,3;");
        due("cut: the lower of two, from behind", back.cut(0, 0, 1), 1 << 1);
        NewsDraughts narrow = laid("g2,4;h2,0,0;n0,1,0;");
        due("cut: one is fewer than two lower ones", narrow.cut(6, 0, 0), 1);
        due("cut: one is fewer than two lower ones, which", narrow.cut(6, 0, 1), 1 << 5);
        NewsDraughts bits = laid("g4,4;h0,0,1;h1,0,0;h3,0,1;h7,2,1;h8,0,1;h9,1,2;h11,0,1;h12,0,1;h14,0,0;h15,0,1;n0,2,3;");
        bits.tell(12, 0);
        due("cut: 5 and 8 are lower as bits than 2 and 9", bits.cut(4, 0, 1), 1 << 5 | 1 << 8);
        bits.open(2, 0);
        due("cut: without 2, the lowest one", bits.cut(4, 0, 1), 1 << 9);
        bits.open(9, 0);
        due("cut: without 2 and 9, none", bits.cut(4, 0, 1), 0);
    }

    private static void cutOthersAlone() {
        NewsDraughts x = laid("g1,4;n0,1,0;");
        due("cut: not the house itself", x.cut(1, 0, 0), NONE);
        x.tell(2, 0);
        due("cut: who knows lets out, also if it is stuffed", x.cut(3, 0, 0), NONE);
        NewsDraughts square = laid("g2,2;n0,1,1;");
        due("cut: house 0 and 3", square.cut(2, 0, 1), 1 | 1 << 3);
        NewsDraughts end = laid("g4,4;h13,0,0;n0,1,12;");
        due("cut: house 8", end.cut(15, 0, 1), 1 << 8);
        end.open(13, 1);
        end.open(8, 0);
        due("cut: house 13", end.cut(15, 0, 1), 1 << 13);
    }

    private static void cutJustInTime() {
        NewsDraughts x = laid(JUST_IN_TIME);
        due("cut: behind 48", x.cut(3, 0, 0), 1);
        due("cut: behind 48, which", x.cut(3, 0, 1), 1 << 7);
        due("cut: behind 49", x.cut(2, 0, 0), 0);
        due("cut: behind 49, which", x.cut(2, 0, 1), 0);
        x.step(1);
        due("cut: one step on", x.cut(2, 0, 0), 1);
        due("cut: one step on, which", x.cut(2, 0, 1), 1 << 3);
    }

    // ---- OPENINGS: "ways to open 2 HOUSES or fewer now, each by 0 to 6"

    private static void ways(String what, NewsDraughts x, int[] ask, int many, int first, int second) {
        due(what + ", how many", x.openings(ask[0], ask[1], ask[2], ask[3], 0), many);
        due(what + ", the first", x.openings(ask[0], ask[1], ask[2], ask[3], 1), first);
        due(what + ", the second", x.openings(ask[0], ask[1], ask[2], ask[3], 2), second);
    }

    private static int[] ask(int n, int steps, int know, int not) {
        return new int[] {n, steps, know, not};
    }

    private static void openingsNone() {
        NewsDraughts x = laid("g1,4;n0,1,1;");
        ways("so already", x, ask(0, 1, 7, 8), 0, NONE, NONE);
        ways("nothing is asked", x, ask(0, 12, 0, 0), 0, NONE, NONE);
        ways("it knows now", x, ask(0, 1, 2, 0), 0, NONE, NONE);
        ways("it knows now and shall not", x, ask(0, 1, 0, 2), NONE, NONE, NONE);
        ways("too few steps", x, ask(0, 1, 8, 0), NONE, NONE, NONE);
    }

    private static void openingsOne() {
        NewsDraughts x = laid("g1,4;h1,0,0;n0,3,0;w2;");
        ways("one", x, ask(0, 1, 2, 0), 1, 13, NONE);
        NewsDraughts shut = laid("g1,4;n0,1,3;w4;");
        ways("one shut, house 0", shut, ask(0, 3, 0, 1), 1, 0, NONE);
        ways("one shut, house 1", shut, ask(0, 3, 0, 3), 1, 10, NONE);
        ways("one shut, house 2", shut, ask(0, 3, 0, 7), 1, 20, NONE);
        ways("one shut, house 1 alone", shut, ask(0, 3, 4, 3), 1, 10, NONE);
        ways("the last of 16", laid("g4,4;n0,4,14;"), ask(0, 1, 1 << 15, 0), 1, 154, NONE);
    }

    private static void openingsTwo() {
        NewsDraughts x = laid("g1,4;n0,3,0;w2;");
        ways("two", x, ask(0, 2, 6, 0), 2, 13, 23);
        ways("two, in time", x, ask(0, 2, 4, 0), 2, 13, 23);
        ways("two, not in time", x, ask(0, 1, 4, 0), NONE, NONE, NONE);
        NewsDraughts middle = laid("g1,3;n0,1,1;");
        ways("both shut", middle, ask(0, 1, 0, 5), 2, 0, 20);
        NewsDraughts last = laid("g4,4;h14,0,0;h15,0,0;n0,4,13;w2;");
        ways("the last two of 16", last, ask(0, 2, 1 << 15, 0), 2, 144, 154);
    }

    private static void openingsThree() {
        NewsDraughts x = laid("g1,4;n0,3,0;w2;");
        ways("three would be", x, ask(0, 12, 8, 0), NONE, NONE, NONE);
        ways("three would be, all", x, ask(0, 12, 15, 0), NONE, NONE, NONE);
        x.open(2, 3);
        ways("two of three", x, ask(0, 12, 8, 0), 2, 13, 33);
        x.open(1, 3);
        ways("one of three", x, ask(0, 12, 8, 0), 1, 33, NONE);
        x.open(3, 3);
        ways("none of three", x, ask(0, 12, 8, 0), 0, NONE, NONE);
    }

    private static void openingsInOrder() {
        NewsDraughts x = laid("g2,4;h2,1,4;h1,2,1;h0,1,1;n0,2,5;");
        ways("by how much the lower one, ahead of which the higher one is", x, ask(0, 3, 2, 128), 2, 12, 70);
        NewsDraughts square = laid("g2,2;h1,0,0;h2,0,0;h3,0,0;n0,1,0;");
        ways("the lower way of two", square, ask(0, 2, 8, 0), 2, 11, 31);
        ways("the lower way not", square, ask(0, 2, 8, 2), 2, 21, 31);
        square.open(3, 2);
        ways("the lower one of two", square, ask(0, 2, 8, 0), 1, 11, NONE);
        ways("the higher one of two", square, ask(0, 2, 8, 2), 1, 21, NONE);
        due("nothing changes", square.house(1, 1) + square.house(2, 1) + square.count(7), 1);
    }

    /** A deaf one and news of each weight: the least width by which it hears, up to 5. */
    private static void openingsByEachWidth() {
        for (int heavy = 1; heavy <= 4; heavy++) {
            String news = "n0," + heavy + ",0;";
            ways("plain, " + heavy, laid("g1,2;h1,0,0;" + news), ask(0, 1, 2, 0), 1, 10 + heavy, NONE);
            ways("deaf, " + heavy, laid("g1,2;h1,2,0;" + news), ask(0, 1, 2, 0), 1, 11 + heavy, NONE);
            int byGossip = 9 + Math.max(2, heavy);
            ways("by a gossip, " + heavy, laid("g1,2;h0,1,0;h1,0,0;" + news), ask(0, 1, 2, 0), 1, byGossip, NONE);
            ways("shut, " + heavy, laid("g1,2;h1,0,6;" + news), ask(0, 1, 0, 2), 1, 10, NONE);
        }
    }

    private static void openingsSteps() {
        NewsDraughts x = laid(TWELVE);
        ways("behind 12", x, ask(0, 12, 4, 0), 0, NONE, NONE);
        ways("behind 11", x, ask(0, 11, 4, 0), NONE, NONE, NONE);
        ways("not behind 12", x, ask(0, 12, 0, 4), 1, 10, NONE);
        ways("not behind 11", x, ask(0, 11, 0, 4), 0, NONE, NONE);
        ways("behind 13", x, ask(0, 13, 4, 0), BAD, BAD, BAD);
        ways("behind 0", x, ask(0, 0, 1, 0), BAD, BAD, BAD);
        ways("behind 1", x, ask(0, 1, 1, 0), 0, NONE, NONE);
        ways("behind -1", x, ask(0, -1, 1, 0), BAD, BAD, BAD);
    }

    private static void openingsSets() {
        NewsDraughts sixteen = laid("g4,4;n0,1,5;");
        ways("all of 16", sixteen, ask(0, 4, 65535, 0), 0, NONE, NONE);
        ways("all of 16 but one", sixteen, ask(0, 12, 65535 - 1, 1), 1, 0, NONE);
        ways("none of 16", sixteen, ask(0, 4, 0, 65535), NONE, NONE, NONE);
        for (int wrong : new int[] {65536, 131071, -1, -65536, Integer.MIN_VALUE, Integer.MAX_VALUE}) {
            ways("know " + wrong, sixteen, ask(0, 1, wrong, 0), BAD, BAD, BAD);
            ways("not " + wrong, sixteen, ask(0, 1, 0, wrong), BAD, BAD, BAD);
        }
        for (int h = 0; h < 16; h++) {
            due("one in both, " + h, sixteen.openings(0, 1, 1 << h, 1 << h, 0), BAD);
            due("one of all in both, " + h, sixteen.openings(0, 1, 65535, 1 << h, 0), BAD);
        }
        NewsDraughts one = laid("g1,1;n0,1,0;");
        ways("one of one", one, ask(0, 1, 1, 0), 0, NONE, NONE);
        ways("not one of one", one, ask(0, 1, 0, 1), NONE, NONE, NONE);
        ways("two of one", one, ask(0, 1, 2, 0), BAD, BAD, BAD);
        ways("not two of one", one, ask(0, 1, 0, 2), BAD, BAD, BAD);
    }

    private static void openingsNumbers() {
        NewsDraughts x = laid("g1,4;n0,1,1;");
        for (int wrong : WILD) {
            due("openings of " + wrong, x.openings(wrong, 1, 1, 0, 0), BAD);
            due("openings behind " + wrong, x.openings(0, wrong, 1, 0, 0), BAD);
            due("openings, k " + wrong, x.openings(0, 1, 1, 0, wrong), BAD);
            due("none, k " + wrong, x.openings(0, 1, 0, 2, wrong), BAD);
        }
        due("openings of 1", x.openings(1, 1, 1, 0, 0), BAD);
        due("openings, k 3", x.openings(0, 1, 1, 0, 3), BAD);
        due("none, k 3", x.openings(0, 1, 0, 2, 3), BAD);
        due("none, k 2", x.openings(0, 1, 0, 2, 2), NONE);
    }

    // ---- BEARS: "the widest (0 to 6)", "v (0 to 20) heavy or less together"

    /** News of 1, 2, 3 and 4 come from a plain one: as wide as the next one that is too heavy, less 1. */
    private static void bearsWidest() {
        NewsDraughts x = laid("g1,2;h1,0,0;n0,1,0;n1,2,0;n2,3,0;n0,4,0;");
        int[] widest = {0, 1, 1, 2, 2, 2, 3, 3, 3, 3, 6, 6};
        for (int v = 0; v < widest.length; v++) due("bears " + v, x.bears(1, v), widest[v]);
        due("bears 20", x.bears(1, 20), 6);
        NewsDraughts deaf = laid("g1,2;h1,2,0;n0,1,0;n0,4,0;");
        int[] deafer = {1, 4, 4, 4, 4, 6};
        for (int v = 0; v < deafer.length; v++) due("a deaf one bears " + v, deaf.bears(1, v), deafer[v]);
        NewsDraughts gossip = laid("g1,2;h0,1,0;h1,0,6;n0,1,0;n0,2,0;");
        int[] byGossip = {0, 0, 0, 6};
        for (int v = 0; v < byGossip.length; v++) due("by a gossip bears " + v, gossip.bears(1, v), byGossip[v]);
        due("bears: nothing changes", gossip.house(1, 1) + gossip.count(7), 6);
        due("bears: nothing comes", laid("g1,1;h0,0,0;n0,4,0;").bears(0, 4), 6);
    }

    private static void bearsNone() {
        NewsDraughts x = laid("g1,2;h1,0,0;n0,4,0;n0,4,0;n0,4,0;n0,4,0;n0,4,0;");
        due("knows 20, bears 20", x.bears(0, 20), 6);
        due("knows 20, bears 19", x.bears(0, 19), NONE);
        due("knows 20, bears 0", x.bears(0, 0), NONE);
        due("hears 20, bears 20", x.bears(1, 20), 6);
        due("hears 20, bears 19", x.bears(1, 19), 3);
        due("hears 20, bears 0", x.bears(1, 0), 3);
        x.tell(1, 0);
        due("told 4, bears 3", x.bears(1, 3), NONE);
        due("told 4, bears 4", x.bears(1, 4), 3);
    }

    private static void bearsJustInTime() {
        NewsDraughts x = laid(JUST_IN_TIME);
        due("bears: behind 48", x.bears(3, 0), 0);
        due("bears: behind 49", x.bears(2, 0), 6);
        x.step(1);
        due("bears: one step on", x.bears(2, 0), 0);
    }

    private static void bearsNumbers() {
        NewsDraughts x = laid("g1,4;n0,1,1;");
        for (int wrong : WILD) {
            due("bears in " + wrong, x.bears(wrong, 1), BAD);
            due("bears v " + wrong, x.bears(0, wrong), BAD);
            due("knows, bears v " + wrong, x.bears(1, wrong), BAD);
        }
        due("bears in 4", x.bears(4, 1), BAD);
        due("bears v 21", x.bears(0, 21), BAD);
        due("bears v 20", x.bears(0, 20), 6);
        due("bears v 0", x.bears(0, 0), 0);
        due("knows, bears v 0", x.bears(1, 0), NONE);
    }

    // ---- QUARREL

    private static void quarrel(String what, NewsDraughts x, int h, int steps, int knows, int opened) {
        due("quarrel: " + what, x.quarrel(h, 0, steps, 0), knows);
        due("quarrel: " + what + ", opened", x.quarrel(h, 0, steps, 1), opened);
    }

    /** Heavy by 3: what 1 more and 1 less make of each width. */
    private static void quarrelAboutOneHouse() {
        for (int width = 0; width <= 6; width++) {
            NewsDraughts x = laid("g1,2;h1,0," + width + ";n0,3,0;");
            quarrel("open by " + width, x, 1, 1, width >= 3 ? 1 : 0, width == 3 ? 1 : 16);
            due("quarrel: stays open by " + width, x.house(1, 1), width);
        }
        NewsDraughts knows = laid("g1,2;h0,0,0;n0,4,0;");
        quarrel("it knows", knows, 0, 1, 1, 16);
        NewsDraughts first = laid("g1,2;h0,0,1;n0,1,1;");
        quarrel("house 0", first, 0, 1, 1, 0);
        NewsDraughts last = laid("g4,4;h15,0,1;n0,1,14;");
        quarrel("house 15", last, 15, 1, 1, 15);
    }

    private static void quarrelTheLowest() {
        NewsDraughts x = laid("g3,3;h1,0,0;h3,0,1;h5,0,1;h4,0,6;n0,2,0;");
        x.tell(8, 0);
        quarrel("by 3, 5 or 7", x, 4, 2, 1, 3);
        x.open(3, 0);
        quarrel("by 5 or 7", x, 4, 2, 1, 5);
        x.open(5, 0);
        quarrel("by 7", x, 4, 2, 1, 7);
        x.open(7, 3);
        quarrel("by none", x, 4, 2, 1, 16);
        x.open(7, 1);
        quarrel("in vain", x, 4, 2, 0, 16);
        x.open(7, 2);
        x.open(5, 2);
        quarrel("two ways already", x, 4, 2, 1, 16);
    }

    private static void quarrelAtTheWidest() {
        NewsDraughts x = laid("g1,2;h1,2,6;n0,4,0;");
        quarrel("at 6", x, 1, 1, 1, 16);
        x.open(1, 5);
        quarrel("at 5", x, 1, 1, 1, 1);
        x.open(1, 4);
        quarrel("at 4", x, 1, 1, 0, 16);
        NewsDraughts light = laid("g1,2;h0,1,0;h1,0,0;n0,1,0;");
        quarrel("at 0", light, 1, 1, 0, 16);
        light.open(1, 1);
        quarrel("at 1", light, 1, 1, 1, 1);
        light.open(1, 2);
        quarrel("at 2", light, 1, 1, 1, 16);
    }

    private static void quarrelSteps() {
        NewsDraughts x = laid(TWELVE);
        quarrel("behind 12", x, 2, 12, 1, 16);
        quarrel("behind 11", x, 2, 11, 0, 16);
        quarrel("behind 13", x, 2, 13, BAD, BAD);
        quarrel("behind 0", x, 0, 0, BAD, BAD);
        quarrel("behind 1", x, 0, 1, 1, 16);
        quarrel("behind 6", x, 1, 6, 1, 16);
        quarrel("behind 5", x, 1, 5, 0, 16);
    }

    private static void quarrelNumbers() {
        NewsDraughts x = laid("g1,4;n0,1,1;");
        for (int wrong : WILD) {
            due("quarrel in " + wrong, x.quarrel(wrong, 0, 1, 0), BAD);
            due("quarrel of " + wrong, x.quarrel(0, wrong, 1, 0), BAD);
            due("quarrel behind " + wrong, x.quarrel(0, 0, wrong, 0), BAD);
            due("quarrel, what " + wrong, x.quarrel(0, 0, 1, wrong), BAD);
        }
        due("quarrel in 3", x.quarrel(3, 0, 1, 0), 0);
        due("quarrel in 4", x.quarrel(4, 0, 1, 0), BAD);
        due("quarrel of 1", x.quarrel(0, 1, 1, 0), BAD);
        due("quarrel, what 2", x.quarrel(0, 0, 1, 2), BAD);
    }
}
