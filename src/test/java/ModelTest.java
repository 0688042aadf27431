import java.util.Random;

/**
 * Runs of calls by a fixed seed, each answered by the program and by a slow model that is written
 * after the document alone; and wild numbers, at which nothing may be thrown.
 */
public final class ModelTest {
    private static final Checks checks = new Checks();

    public static void main(String[] args) {
        for (int run = 0; run < 250; run++) new Run(run).go();
        for (int run = 0; run < 200; run++) wild(new Random(run));
        checks.end();
    }

    private static final class Run {
        private final String name;
        private final Random random;
        private final NewsDraughts x = new NewsDraughts();
        private final Model m = new Model();

        Run(int seed) {
            name = "run " + seed + ": ";
            random = new Random(seed);
        }

        void go() {
            if (random.nextInt(8) != 0) relay();
            for (int i = 0; i < 60; i++) call();
        }

        private void due(String call, int got, int want) {
            checks.due(name + call, got, want);
        }

        /** Mostly below the bound, now and then beside what is allowed. */
        private int upTo(int bound) {
            return random.nextInt(25) == 0 ? random.nextInt(bound + 6) - 3 : random.nextInt(Math.max(1, bound));
        }

        private int anyHouse() {
            return upTo(m.houses());
        }

        private int anyNews() {
            return upTo(m.news.size());
        }

        private void write(String text) {
            for (char c : text.toCharArray()) due("write " + c, x.write(c), m.write(c));
        }

        private void relay() {
            due("wipe", x.wipe(), m.wipe());
            write(Texts.any(random));
            due("fault", x.fault(), m.fault());
            due("lay", x.lay(), m.lay());
            look();
        }

        private void look() {
            for (int what = 0; what < 10; what++) due("count " + what, x.count(what), m.count(what));
            for (int h = 0; h < m.houses(); h++) {
                for (int what = 0; what < 3; what++) due("house " + h + " " + what, x.house(h, what), m.house(h, what));
            }
            for (int n = 0; n < m.news.size(); n++) {
                for (int what = 0; what < 4; what++) due("news " + n + " " + what, x.news(n, what), m.news(n, what));
            }
            for (int s = 0; s < 10; s++) due("wind " + s, x.wind(s), m.wind(s));
        }

        private void call() {
            switch (random.nextInt(11)) {
                case 0: case 1: act(); look(); break;
                case 2: case 3: ask(); break;
                case 4: askWays(); break;
                case 5: askQuarrel(); break;
                case 6: seen(); break;
                case 7: chances(); break;
                case 8: keepOrBack(); look(); break;
                case 9: askTheRest(); break;
                default: if (random.nextInt(4) == 0) relay();
            }
        }

        private void act() {
            int h = anyHouse(), n = anyNews(), o = upTo(7), steps = 1 + upTo(6);
            switch (random.nextInt(5)) {
                case 0: due("step " + steps, x.step(steps), m.step(steps)); break;
                case 1: case 2: due("open " + h + " " + o, x.open(h, o), m.open(h, o)); break;
                case 3: due("tell " + h + " " + n, x.tell(h, n), m.tell(h, n)); break;
                default: due("undo", x.undo(), m.undo());
            }
        }

        private void ask() {
            int h = anyHouse(), n = anyNews(), s = upTo(49), v = upTo(21);
            due("behind " + s + " " + h, x.behind(s, h), m.behind(s, h));
            due("when " + h + " " + n, x.when(h, n), m.when(h, n));
            for (int what = 0; what < 2; what++) due("last " + n + " " + what, x.last(n, what), m.last(n, what));
            due("bears " + h + " " + v, x.bears(h, v), m.bears(h, v));
            for (int what = 0; what < 2; what++) {
                due("cut " + h + " " + n + " " + what, x.cut(h, n, what), m.cut(h, n, what));
            }
        }

        private void askWays() {
            int n = anyNews(), steps = 1 + upTo(12);
            int all = (1 << m.houses()) - 1;
            int know = random.nextInt(3) == 0 ? 0 : 1 << random.nextInt(m.houses());
            int not = random.nextInt(3) == 0 ? 0 : 1 << random.nextInt(m.houses());
            if (random.nextInt(3) == 0) know |= 1 << random.nextInt(m.houses());
            if (random.nextInt(3) == 0) not |= random.nextInt(all + 1) & random.nextInt(all + 2);
            if (random.nextInt(10) != 0) not &= ~know;
            for (int k = 0; k < 3; k++) {
                String call = "openings " + n + " " + steps + " " + know + " " + not + " " + k;
                due(call, x.openings(n, steps, know, not, k), m.openings(n, steps, know, not, k));
            }
        }

        private void askQuarrel() {
            int h = anyHouse(), n = anyNews(), steps = 1 + upTo(12);
            for (int what = 0; what < 2; what++) {
                String call = "quarrel " + h + " " + n + " " + steps + " " + what;
                due(call, x.quarrel(h, n, steps, what), m.quarrel(h, n, steps, what));
            }
        }

        private void seen() {
            int h = anyHouse(), n = anyNews(), t = upTo(random.nextInt(3) == 0 ? 31 : 5);
            boolean knows = random.nextBoolean();
            String call = "see " + h + " " + n + " " + t + " " + knows;
            if (random.nextInt(12) == 0) due("forget", x.forget(), m.forget());
            else due(call, x.see(h, n, t, knows), m.see(h, n, t, knows));
            for (int i = 0; i < m.news.size(); i++) due("began " + i, x.began(i), m.began(i));
            due("blew", x.blew(), m.blew());
        }

        private void chances() {
            int h = anyHouse(), n = anyNews(), s = upTo(5), z = upTo(10000), y = 1 + upTo(60);
            for (int i = 0; i < 2; i++) {
                due("gusts " + h + " " + n + " " + s + " " + i, x.gusts(h, n, s, i), m.gusts(h, n, s, i));
                due("year " + z + " " + y + " " + i, x.year(z, y, i), m.year(z, y, i));
            }
        }

        private void keepOrBack() {
            if (random.nextInt(2) == 0) due("keep", x.keep(), m.keep());
            else if (random.nextInt(2) == 0) due("back", x.back(), m.back());
        }

        private void askTheRest() {
            int what = random.nextInt(30) - 10;
            int h = random.nextInt(40) - 10;
            due("count " + what, x.count(what), m.count(what));
            due("house " + h + " " + what, x.house(h, what), m.house(h, what));
            due("news " + h + " " + what, x.news(h, what), m.news(h, what));
            due("wind " + h, x.wind(h * 5), m.wind(h * 5));
            due("began " + h, x.began(h), m.began(h));
            due("write " + h, x.write(h), m.write(h));
            due("fault", x.fault(), m.fault());
        }
    }

    /** Texts that are mostly without fault, or have one somewhere. */
    private static final class Texts {
        static String any(Random random) {
            StringBuilder text = new StringBuilder();
            int rows = 3, columns = 4;
            for (int i = random.nextInt(3); i > 0; i--) {
                rows = 1 + random.nextInt(4);
                columns = 1 + random.nextInt(4);
                text.append('g').append(rows).append(',').append(columns).append(';');
            }
            int houses = rows * columns;
            for (int i = random.nextInt(18); i > 0; i--) {
                text.append('h').append(random.nextInt(houses)).append(',').append(random.nextInt(5));
                text.append(',').append(random.nextInt(7)).append(';');
            }
            for (int i = random.nextInt(6) + random.nextInt(2); i > 0; i--) {
                text.append('n').append(random.nextInt(3)).append(',').append(1 + random.nextInt(4));
                text.append(',').append(random.nextInt(houses)).append(';');
            }
            for (int i = random.nextInt(9) + random.nextInt(2); i > 0; i--) {
                text.append('w').append(random.nextInt(5)).append(';');
            }
            if (random.nextInt(4) == 0) spoil(text, random);
            return text.toString();
        }

        private static void spoil(StringBuilder text, Random random) {
            String letters = "0123456789,;ghnw x";
            for (int i = 1 + random.nextInt(2); i > 0 && text.length() > 0; i--) {
                int place = random.nextInt(text.length());
                char letter = letters.charAt(random.nextInt(letters.length()));
                if (random.nextInt(3) == 0) text.deleteCharAt(place);
                else if (random.nextInt(2) == 0) text.insert(place, letter);
                else text.setCharAt(place, letter);
            }
        }
    }

    /** Whatever the numbers: no exception, and an answer not below NONE. */
    private static void wild(Random random) {
        NewsDraughts x = new NewsDraughts();
        if (random.nextBoolean()) {
            for (char c : Texts.any(random).toCharArray()) x.write(c);
            x.lay();
        }
        for (int i = 0; i < 400; i++) {
            int answer = wildCall(x, random);
            if (answer < NewsDraughts.NONE) checks.due("a wild call", answer, NewsDraughts.BAD);
        }
    }

    private static int wildNumber(Random random) {
        switch (random.nextInt(6)) {
            case 0: return random.nextInt();
            case 1: return random.nextBoolean() ? Integer.MIN_VALUE : Integer.MAX_VALUE;
            case 2: return 1 << random.nextInt(32);
            case 3: return random.nextInt(140) - 10;
            default: return random.nextInt(8) - 1;
        }
    }

    private static int wildCall(NewsDraughts x, Random random) {
        int a = wildNumber(random), b = wildNumber(random), c = wildNumber(random);
        int d = wildNumber(random), e = wildNumber(random);
        switch (random.nextInt(27)) {
            case 0: return x.write(a);
            case 1: return random.nextInt(5) == 0 ? x.wipe() : 0;
            case 2: return x.fault();
            case 3: return x.lay();
            case 4: return x.house(a, b);
            case 5: return x.news(a, b);
            case 6: return x.wind(a);
            case 7: return x.step(a);
            case 8: return x.open(a, b);
            case 9: return x.tell(a, b);
            case 10: return x.undo();
            case 11: return x.behind(a, b);
            case 12: return x.when(a, b);
            case 13: return x.last(a, b);
            case 14: return x.cut(a, b, c);
            case 15: return x.openings(a, b, c, d, e);
            case 16: return x.bears(a, b);
            case 17: return x.quarrel(a, b, c, d);
            case 18: return x.see(a, b, c, random.nextBoolean());
            case 19: return x.forget();
            case 20: return x.began(a);
            case 21: return x.blew();
            case 22: return x.gusts(a, b, c, d);
            case 23: return x.year(a, b, c);
            case 24: return x.keep();
            case 25: return x.back();
            default: return x.count(a);
        }
    }
}
