import java.util.ArrayList;
import java.util.List;
import java.util.function.Supplier;
import java.util.function.ToIntFunction;

/**
 * "Of several the first in this order, whatever the order at a call; nothing changes then": each refused call is put
 * to an object, which has to stand then as its twin does, to which it was not put; also where all of it is undone and
 * gone back to.
 */
public final class RefusedTest extends Trial {
    private static final int MIN = Integer.MIN_VALUE, MAX = Integer.MAX_VALUE;
    private static final int[] NOT_0_OR_1 = {MIN, -1, 2, 3, MAX};

    private static final class Call {
        final String name;
        final ToIntFunction<NewsDraughts> put;
        final int due;

        Call(String name, int due, ToIntFunction<NewsDraughts> put) {
            this.name = name;
            this.put = put;
            this.due = due;
        }
    }

    private static List<Call> calls;

    public static void main(String[] args) {
        refused("a new object", NewsDraughts::new, 12, 3);
        refused("the first parish, later on", RefusedTest::laterOn, 12, 3);
        refused("all is full", RefusedTest::full, 3, 2);
        refused("the smallest parish", RefusedTest::smallest, 1, 1);
        refused("the largest parish", RefusedTest::largest, 16, 5);
        changesNothing("a new object", NewsDraughts::new);
        changesNothing("the first parish, later on", RefusedTest::laterOn);
        changesNothing("all is full", RefusedTest::full);
        no();
        fullOnes();
        none();
        badAheadOfAll();
        checks.end();
    }

    // ---- the states

    private static NewsDraughts laterOn() {
        NewsDraughts x = new NewsDraughts();
        x.step(2);
        x.open(10, 3);
        x.keep();
        x.tell(11, 2);
        x.step(3);
        x.see(7, 0, 3, true);
        write(x, "g1,1;n0,9,0;");
        return x;
    }

    private static NewsDraughts full() {
        NewsDraughts x = laid("g1,3;h1,1,0;n0,1,0;n2,3,1;w2;w4;");
        fill(x, '~');
        for (int i = 0; i < 6; i++) x.see(i % 3, i % 2, i, i % 2 == 0);
        x.step(1);
        x.keep();
        x.open(1, 2);
        x.keep();
        for (int i = 0; i < 8; i++) x.open(i % 3, (i + 1) % 7);
        return x;
    }

    private static NewsDraughts smallest() {
        NewsDraughts x = laid("g1,1;n0,1,0;");
        x.wipe();
        return x;
    }

    private static NewsDraughts largest() {
        NewsDraughts x = laid("g4,4;n0,1,0;n0,2,15;n1,3,3;n2,4,12;n0,1,5;w1;w2;w3;w4;w0;w1;w2;w3;");
        write(x, "x");
        x.open(0, 6);
        x.keep();
        return x;
    }

    // ---- putting calls

    private static void put(String name, int due, ToIntFunction<NewsDraughts> call) {
        calls.add(new Call(name, due, call));
    }

    private static void bad(String name, ToIntFunction<NewsDraughts> call) {
        put(name, BAD, call);
    }

    /** As all else is looked at in the twin, too, a call that changed something else would show. */
    private static void putAll(String state, Supplier<NewsDraughts> made) {
        String want = unwound(made.get());
        for (Call call : calls) {
            NewsDraughts x = made.get();
            due(state + ": " + call.name, call.put.applyAsInt(x), call.due);
            same(state + ": nothing changes by " + call.name, unwound(x), want);
        }
    }

    private static void refused(String state, Supplier<NewsDraughts> made, int houses, int news) {
        calls = new ArrayList<>();
        for (int wrong : new int[] {MIN, -1, 0, 31, 127, 128, MAX}) bad("write " + wrong, x -> x.write(wrong));
        for (int h : new int[] {MIN, -1, houses, houses + 1, MAX}) badHouse(h);
        for (int n : new int[] {MIN, -1, news, news + 1, MAX}) badNews(n);
        badWhat();
        badNumbers();
        badSets(houses);
        for (int wrong : new int[] {MIN, -1, 10, MAX}) bad("count " + wrong, x -> x.count(wrong));
        putAll(state, made);
    }

    private static void badHouse(int h) {
        for (int what = 0; what <= 2; what++) {
            int asked = what;
            bad("house " + h + " " + what, x -> x.house(h, asked));
        }
        bad("open " + h, x -> x.open(h, 1));
        bad("tell in " + h, x -> x.tell(h, 0));
        bad("behind in " + h, x -> x.behind(1, h));
        bad("when in " + h, x -> x.when(h, 0));
        bad("cut in " + h, x -> x.cut(h, 0, 0));
        bad("bears in " + h, x -> x.bears(h, 1));
        bad("quarrel in " + h, x -> x.quarrel(h, 0, 1, 0));
        bad("see in " + h, x -> x.see(h, 0, 0, true));
        bad("gusts in " + h, x -> x.gusts(h, 0, 1, 0));
    }

    private static void badNews(int n) {
        for (int what = 0; what <= 3; what++) {
            int asked = what;
            bad("news " + n + " " + what, x -> x.news(n, asked));
        }
        bad("tell " + n, x -> x.tell(0, n));
        bad("when of " + n, x -> x.when(0, n));
        bad("last of " + n, x -> x.last(n, 0));
        bad("cut of " + n, x -> x.cut(0, n, 0));
        bad("openings of " + n, x -> x.openings(n, 1, 0, 0, 0));
        bad("quarrel of " + n, x -> x.quarrel(0, n, 1, 0));
        bad("see of " + n, x -> x.see(0, n, 0, true));
        bad("began of " + n, x -> x.began(n));
        bad("gusts of " + n, x -> x.gusts(0, n, 1, 0));
    }

    private static void badWhat() {
        for (int wrong : NOT_0_OR_1) {
            bad("last, what " + wrong, x -> x.last(0, wrong));
            bad("cut, what " + wrong, x -> x.cut(0, 0, wrong));
            bad("quarrel, what " + wrong, x -> x.quarrel(0, 0, 1, wrong));
            bad("gusts, part " + wrong, x -> x.gusts(0, 0, 1, wrong));
            bad("year, what " + wrong, x -> x.year(0, 1, wrong));
        }
        for (int wrong : new int[] {MIN, -1, 3, 4, MAX}) {
            bad("house, what " + wrong, x -> x.house(0, wrong));
            bad("openings, k " + wrong, x -> x.openings(0, 1, 0, 0, wrong));
        }
        for (int wrong : new int[] {MIN, -1, 4, 5, MAX}) bad("news, what " + wrong, x -> x.news(0, wrong));
    }

    private static void badNumbers() {
        for (int wrong : new int[] {MIN, -1, 100, MAX}) bad("wind " + wrong, x -> x.wind(wrong));
        for (int wrong : new int[] {MIN, -1, 0, 25, MAX}) bad("step " + wrong, x -> x.step(wrong));
        for (int wrong : new int[] {MIN, -1, 7, MAX}) bad("open by " + wrong, x -> x.open(0, wrong));
        for (int wrong : new int[] {MIN, -1, 49, MAX}) bad("behind " + wrong, x -> x.behind(wrong, 0));
        for (int wrong : new int[] {MIN, -1, 0, 13, MAX}) {
            bad("openings behind " + wrong, x -> x.openings(0, wrong, 0, 0, 0));
            bad("quarrel behind " + wrong, x -> x.quarrel(0, 0, wrong, 0));
        }
        for (int wrong : new int[] {MIN, -1, 21, MAX}) bad("bears v " + wrong, x -> x.bears(0, wrong));
        for (int wrong : new int[] {MIN, -1, 31, MAX}) bad("see behind " + wrong, x -> x.see(0, 0, wrong, false));
        for (int wrong : new int[] {MIN, -1, 5, MAX}) bad("gusts behind " + wrong, x -> x.gusts(0, 0, wrong, 0));
        for (int wrong : new int[] {MIN, -1, 10000, MAX}) bad("year by " + wrong, x -> x.year(wrong, 1, 0));
        for (int wrong : new int[] {MIN, -1, 0, 61, MAX}) bad("year of " + wrong, x -> x.year(0, wrong, 0));
    }

    private static void badSets(int houses) {
        int all = (1 << houses) - 1;
        for (int wrong : new int[] {MIN, -1, all + 1, all + 2, 1 << 16, MAX}) {
            bad("openings know " + wrong, x -> x.openings(0, 1, wrong, 0, 0));
            bad("openings not " + wrong, x -> x.openings(0, 1, 0, wrong, 0));
        }
        for (int h = 0; h < houses; h++) {
            int one = 1 << h;
            bad("openings both " + h, x -> x.openings(0, 1, one, one, 0));
            bad("openings all and " + h, x -> x.openings(0, 1, all, one, 0));
            bad("openings all but " + h, x -> x.openings(0, 1, one, all, 0));
        }
    }

    /** Who only asks changes nothing either, whatever is answered. */
    private static void changesNothing(String state, Supplier<NewsDraughts> made) {
        String want = unwound(made.get());
        NewsDraughts x = made.get();
        for (int h = 0; h < 3; h++) {
            x.behind(48, h);
            x.when(h, 0);
            x.cut(h, 0, 1);
            x.bears(h, 2);
            x.quarrel(h, 1, 3, 1);
            x.gusts(h, 1, 4, 0);
        }
        for (int what = 0; what <= 1; what++) {
            x.last(what, what);
            x.year(1234 + what, 60, what);
            x.openings(what, 2, 2, 4, what);
            x.openings(what, 12, 0, 7, what);
            x.began(what);
        }
        x.blew();
        x.fault();
        x.wind(99);
        same(state + ": nothing changes by asking", unwound(x), want);
    }

    // ---- NO, FULL, NONE

    private static void no() {
        calls = new ArrayList<>();
        put("lay of the empty text", NO, NewsDraughts::lay);
        put("undo of nothing", NO, NewsDraughts::undo);
        put("back to nothing", NO, NewsDraughts::back);
        put("tell in 0", NO, x -> x.tell(0, 0));
        putAll("the smallest parish", RefusedTest::smallest);
        calls = new ArrayList<>();
        put("lay with a fault", NO, NewsDraughts::lay);
        put("tell where it was told", NO, x -> x.tell(11, 2));
        put("tell where it begins", NO, x -> x.tell(8, 2));
        put("tell where it came by the wind", NO, x -> x.tell(1, 0));
        putAll("the first parish, later on", RefusedTest::laterOn);
        calls = new ArrayList<>();
        put("lay without news", NO, NewsDraughts::lay);
        putAll("a text without news", () -> written("g1,1;h0,1,1;w1;"));
    }

    private static void fullOnes() {
        calls = new ArrayList<>();
        for (int letter : new int[] {32, 'g', ';', 126}) put("write " + letter, FULL, x -> x.write(letter));
        put("see", FULL, x -> x.see(0, 0, 0, true));
        put("see the last", FULL, x -> x.see(2, 1, 30, false));
        put("keep", FULL, NewsDraughts::keep);
        put("keep twice", FULL, x -> Math.max(x.keep(), x.keep()));
        put("lay of the full text", NO, NewsDraughts::lay);
        putAll("all is full", RefusedTest::full);
    }

    private static void none() {
        calls = new ArrayList<>();
        put("fault of the empty text", NONE, NewsDraughts::fault);
        put("last", NONE, x -> x.last(0, 0));
        put("last, when", NONE, x -> x.last(0, 1));
        put("cut", NONE, x -> x.cut(0, 0, 0));
        put("cut, which", NONE, x -> x.cut(0, 0, 1));
        put("openings", NONE, x -> x.openings(0, 1, 0, 1, 0));
        put("openings, the first", NONE, x -> x.openings(0, 1, 0, 1, 1));
        put("openings, the second", NONE, x -> x.openings(0, 1, 0, 1, 2));
        put("openings, the first of none", NONE, x -> x.openings(0, 1, 1, 0, 1));
        put("bears", NONE, x -> x.bears(0, 0));
        putAll("the smallest parish", RefusedTest::smallest);
        calls = new ArrayList<>();
        put("when never", NONE, x -> x.when(1, 3));
        putAll("the largest parish", RefusedTest::largest);
    }

    /** BAD ahead of NO, NONE and FULL, where both would fit. */
    private static void badAheadOfAll() {
        calls = new ArrayList<>();
        put("last of nobody, what 2", BAD, x -> x.last(0, 2));
        put("cut of none, what 2", BAD, x -> x.cut(0, 0, 2));
        put("openings of none, k 3", BAD, x -> x.openings(0, 1, 0, 1, 3));
        put("openings of none, k -1", BAD, x -> x.openings(0, 1, 0, 1, -1));
        put("openings of none, steps 13", BAD, x -> x.openings(0, 13, 0, 1, 0));
        put("openings of none, too many houses", BAD, x -> x.openings(0, 1, 2, 1, 0));
        put("bears none, v -1", BAD, x -> x.bears(0, -1));
        put("tell what is known, in none", BAD, x -> x.tell(1, 0));
        put("tell where it is known, none", BAD, x -> x.tell(0, 1));
        put("all are bad", BAD, x -> x.openings(9, 99, -9, -9, 9));
        putAll("the smallest parish", RefusedTest::smallest);
        calls = new ArrayList<>();
        put("write no letter to a full text", BAD, x -> x.write(127));
        put("see no house when full", BAD, x -> x.see(3, 0, 0, true));
        put("see no news when full", BAD, x -> x.see(0, 2, 0, true));
        put("see too late when full", BAD, x -> x.see(0, 0, 31, true));
        putAll("all is full", RefusedTest::full);
    }
}
