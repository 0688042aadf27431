import java.util.ArrayDeque;
import java.util.ArrayList;
import java.util.Arrays;
import java.util.List;
import java.util.function.IntUnaryOperator;
import java.util.regex.Matcher;
import java.util.regex.Pattern;

/** The document once more, slowly: houses one by one, every search over all there is. */
final class Model {
    private static final int BAD = -1, NO = -2, FULL = -3, NONE = -4;
    private static final Pattern ITEM = Pattern.compile("([ghnw])(\\d{1,2}(?:,\\d{1,2})*);");

    private String text = "";
    private int rows, columns;
    private int[] kinds;
    final List<int[]> news = new ArrayList<>();
    private final List<Integer> winds = new ArrayList<>();
    private State now;
    private final ArrayDeque<State> undone = new ArrayDeque<>();
    private final ArrayDeque<State> kept = new ArrayDeque<>();
    private final List<int[]> seen = new ArrayList<>();

    /** Sashes, who knows what (by news, by house), and how many steps have gone by. */
    private static final class State {
        int[] sashes;
        boolean[][] knows;
        int steps;

        State copy() {
            State s = new State();
            s.sashes = sashes.clone();
            s.knows = new boolean[knows.length][];
            for (int i = 0; i < knows.length; i++) s.knows[i] = knows[i].clone();
            s.steps = steps;
            return s;
        }
    }

    Model() {
        text = "g3,4;h1,1,3;h4,2,4;h6,3,5;h9,4,2;h10,0,0;h11,1,1;n0,1,0;n1,2,5;n2,3,8;w2;w3;w0;w1;";
        lay();
        text = "";
    }

    int houses() {
        return rows * columns;
    }

    private boolean isHouse(int h) {
        return h >= 0 && h < houses();
    }

    private boolean isNews(int n) {
        return n >= 0 && n < news.size();
    }

    // ---- the text

    int write(int letter) {
        if (letter < 32 || letter > 126) return BAD;
        if (text.length() == 200) return FULL;
        text += (char) letter;
        return text.length();
    }

    int wipe() {
        int was = text.length();
        text = "";
        return was;
    }

    int fault() {
        Matcher matcher = ITEM.matcher(text);
        int place = 0, r = 3, c = 4, toldNews = 0, toldWinds = 0;
        boolean others = false;
        while (place < text.length()) {
            if (!matcher.find(place) || matcher.start() != place) return place;
            int[] v = numbers(matcher.group(2));
            char kind = matcher.group(1).charAt(0);
            if (v.length != (kind == 'g' ? 2 : kind == 'w' ? 1 : 3)) return place;
            if (kind == 'g') {
                if (others || v[0] < 1 || v[0] > 4 || v[1] < 1 || v[1] > 4) return place;
                r = v[0];
                c = v[1];
            } else {
                others = true;
                if (kind == 'h' && (v[0] >= r * c || v[1] > 4 || v[2] > 6)) return place;
                if (kind == 'n' && (v[0] > 2 || v[1] < 1 || v[1] > 4 || v[2] >= r * c || ++toldNews > 5)) return place;
                if (kind == 'w' && (v[0] > 4 || ++toldWinds > 8)) return place;
            }
            place = matcher.end();
        }
        return NONE;
    }

    private static int[] numbers(String told) {
        return Arrays.stream(told.split(",")).mapToInt(Integer::parseInt).toArray();
    }

    int lay() {
        if (fault() != NONE || !text.contains("n")) return NO;
        rows = 3;
        columns = 4;
        news.clear();
        winds.clear();
        kinds = new int[16];
        State s = new State();
        s.sashes = new int[16];
        Arrays.fill(s.sashes, 2);
        Matcher matcher = ITEM.matcher(text);
        while (matcher.find()) {
            int[] v = numbers(matcher.group(2));
            switch (matcher.group(1)) {
                case "g": rows = v[0]; columns = v[1]; break;
                case "h": kinds[v[0]] = v[1]; s.sashes[v[0]] = v[2]; break;
                case "n": news.add(v); break;
                default: winds.add(v[0]);
            }
        }
        if (winds.isEmpty()) winds.add(0);
        s.knows = new boolean[news.size()][houses()];
        for (int n = 0; n < news.size(); n++) s.knows[n][news.get(n)[2]] = true;
        now = s;
        undone.clear();
        kept.clear();
        seen.clear();
        return houses();
    }

    int house(int h, int what) {
        if (!isHouse(h) || what < 0 || what > 2) return BAD;
        if (what == 0) return kinds[h];
        return what == 1 ? now.sashes[h] : behind(0, h);
    }

    int news(int n, int what) {
        if (!isNews(n) || what < 0 || what > 3) return BAD;
        return what < 3 ? news.get(n)[what] : sum(now.knows[n]);
    }

    private static int sum(boolean[] set) {
        int sum = 0;
        for (boolean b : set) sum += b ? 1 : 0;
        return sum;
    }

    int wind(int s) {
        return s < 0 || s > 99 ? BAD : windAt(now.steps + s);
    }

    private int windAt(int step) {
        return winds.get(step % winds.size());
    }

    // ---- one step

    private int needed(int from, int to, int n) {
        return news.get(n)[1] - (kinds[from] == 1 ? 1 : 0) + (kinds[to] == 2 ? 1 : 0);
    }

    private void pass(State s, State next, int from, int wind) {
        int[] dr = {0, -1, 0, 1, 0}, dc = {0, 0, 1, 0, -1};
        int r = from / columns + dr[wind], c = from % columns + dc[wind];
        if (r < 0 || r >= rows || c < 0 || c >= columns) return;
        int to = r * columns + c;
        for (int n = 0; n < news.size(); n++) {
            if (!s.knows[n][from] || kinds[from] == 3 || kinds[from] == 4 && news.get(n)[0] == 2) continue;
            if (s.sashes[to] > 0 && s.sashes[to] >= needed(from, to, n)) next.knows[n][to] = true;
        }
    }

    private State stepBy(State s, int wind) {
        State next = s.copy();
        next.steps++;
        for (int h = 0; h < houses(); h++) {
            for (int d = 1; d <= 4; d++) {
                if (wind == 0 || wind == d) pass(s, next, h, d);
            }
        }
        return next;
    }

    private State ahead(State s, int steps) {
        State t = s;
        for (int i = 0; i < steps; i++) t = stepBy(t, windAt(t.steps));
        return t;
    }

    // ---- steps

    private void remember() {
        undone.push(now.copy());
        if (undone.size() > 8) undone.removeLast();
    }

    int step(int n) {
        if (n < 1 || n > 24) return BAD;
        remember();
        now = ahead(now, n);
        return now.steps;
    }

    int open(int h, int o) {
        if (!isHouse(h) || o < 0 || o > 6) return BAD;
        remember();
        int was = now.sashes[h];
        now.sashes[h] = o;
        return was;
    }

    int tell(int h, int n) {
        if (!isHouse(h) || !isNews(n)) return BAD;
        if (now.knows[n][h]) return NO;
        remember();
        now.knows[n][h] = true;
        return sum(now.knows[n]);
    }

    int undo() {
        if (undone.isEmpty()) return NO;
        now = undone.pop();
        return undone.size();
    }

    // ---- what comes

    int behind(int n, int h) {
        if (n < 0 || n > 48 || !isHouse(h)) return BAD;
        State s = ahead(now, n);
        int bits = 0;
        for (int i = 0; i < news.size(); i++) bits += s.knows[i][h] ? 1 << i : 0;
        return bits;
    }

    int when(int h, int n) {
        if (!isHouse(h) || !isNews(n)) return BAD;
        State s = now;
        for (int i = 0; i <= 48; i++) {
            if (s.knows[n][h]) return i;
            s = ahead(s, 1);
        }
        return NONE;
    }

    int last(int n, int what) {
        if (!isNews(n) || what < 0 || what > 1) return BAD;
        int house = NONE, latest = 0;
        for (int h = houses() - 1; h >= 0; h--) {
            int w = when(h, n);
            if (w > latest) {
                latest = w;
                house = h;
            }
        }
        return house == NONE ? NONE : what == 0 ? house : latest;
    }

    private boolean hears(int h, int n, int steps, IntUnaryOperator sash) {
        State s = now.copy();
        for (int i = 0; i < houses(); i++) s.sashes[i] = sash.applyAsInt(i);
        return ahead(s, steps).knows[n][h];
    }

    int cut(int h, int n, int what) {
        if (!isHouse(h) || !isNews(n) || what < 0 || what > 1) return BAD;
        for (int size = 0; size <= 3; size++) {
            for (int set = 0; set < 1 << houses(); set++) {
                int stuffed = set;
                if (Integer.bitCount(set) != size || (set >> h & 1) == 1) continue;
                if (hears(h, n, 48, i -> (stuffed >> i & 1) == 1 ? 0 : now.sashes[i])) continue;
                return what == 0 ? size : set;
            }
        }
        return NONE;
    }

    private boolean isSo(int n, int steps, int know, int not, int[] way) {
        State s = now.copy();
        for (int w : way) s.sashes[w / 10] = w % 10;
        s = ahead(s, steps);
        for (int h = 0; h < houses(); h++) {
            if ((know >> h & 1) == 1 && !s.knows[n][h] || (not >> h & 1) == 1 && s.knows[n][h]) return false;
        }
        return true;
    }

    int openings(int n, int steps, int know, int not, int k) {
        if (!isNews(n) || steps < 1 || steps > 12 || k < 0 || k > 2) return BAD;
        if (know < 0 || not < 0 || know >= 1 << houses() || not >= 1 << houses() || (know & not) != 0) return BAD;
        int[] way = firstWay(n, steps, know, not);
        if (way == null) return NONE;
        if (k == 0) return way.length;
        return k <= way.length ? way[k - 1] : NONE;
    }

    private int[] firstWay(int n, int steps, int know, int not) {
        if (isSo(n, steps, know, not, new int[0])) return new int[0];
        for (int w = 0; w < 10 * houses(); w++) {
            if (w % 10 < 7 && isSo(n, steps, know, not, new int[] {w})) return new int[] {w};
        }
        for (int w = 0; w < 10 * houses(); w++) {
            for (int v = w / 10 * 10 + 10; v < 10 * houses(); v++) {
                if (w % 10 > 6 || v % 10 > 6) continue;
                int[] way = {w, v};
                if (isSo(n, steps, know, not, way)) return way;
            }
        }
        return null;
    }

    int bears(int h, int v) {
        if (!isHouse(h) || v < 0 || v > 20) return BAD;
        int widest = NONE;
        for (int o = 0; o <= 6; o++) {
            State s = now.copy();
            s.sashes[h] = o;
            s = ahead(s, 48);
            int sum = 0;
            for (int n = 0; n < news.size(); n++) sum += s.knows[n][h] ? news.get(n)[1] : 0;
            if (sum <= v) widest = o;
        }
        return widest;
    }

    private int worth(int h, int n, int steps, int first) {
        int worst = 1;
        for (int second = 0; second <= houses(); second++) {
            int other = second;
            boolean hears = hears(h, n, steps, i -> {
                int o = i == first ? Math.min(6, now.sashes[i] + 1) : now.sashes[i];
                return i == other ? Math.max(0, o - 1) : o;
            });
            if (!hears) worst = 0;
        }
        return worst;
    }

    int quarrel(int h, int n, int steps, int what) {
        if (!isHouse(h) || !isNews(n) || steps < 1 || steps > 12 || what < 0 || what > 1) return BAD;
        int best = worth(h, n, steps, -1), opened = 16;
        for (int first = 0; first < houses(); first++) {
            int worth = worth(h, n, steps, first);
            if (worth > best) {
                best = worth;
                opened = first;
            }
        }
        return what == 0 ? best : opened;
    }

    // ---- what was seen

    int see(int h, int n, int t, boolean knows) {
        if (!isHouse(h) || !isNews(n) || t < 0 || t > 30) return BAD;
        if (seen.size() == 6) return FULL;
        seen.add(new int[] {h, n, t, knows ? 1 : 0});
        return seen.size();
    }

    int forget() {
        int were = seen.size();
        seen.clear();
        return were;
    }

    int began(int n) {
        if (!isNews(n)) return BAD;
        int set = 0;
        for (int h = 0; h < houses(); h++) {
            State s = now.copy();
            Arrays.fill(s.knows[n], false);
            s.knows[n][h] = true;
            boolean all = true;
            for (int[] o : seen) all &= o[1] != n || ahead(s, o[2]).knows[n][o[0]] == (o[3] == 1);
            if (all) set |= 1 << h;
        }
        return set;
    }

    int blew() {
        int set = 0;
        for (int wind = 0; wind < 5; wind++) {
            boolean all = true;
            for (int[] o : seen) {
                State s = o[2] == 0 ? now : ahead(stepBy(now, wind), o[2] - 1);
                all &= s.knows[o[1]][o[0]] == (o[3] == 1);
            }
            if (all) set |= 1 << wind;
        }
        return set;
    }

    // ---- gusts, years

    private int reached(State s, int h, int n, int steps) {
        if (steps == 0) return s.knows[n][h] ? 1 : 0;
        int sum = 0;
        for (int wind = 1; wind <= 4; wind++) sum += reached(stepBy(s, wind), h, n, steps - 1);
        return sum;
    }

    int gusts(int h, int n, int steps, int part) {
        if (!isHouse(h) || !isNews(n) || steps < 0 || steps > 4 || part < 0 || part > 1) return BAD;
        int above = reached(now, h, n, steps), below = (int) Math.pow(4, steps);
        int common = gcd(above, below);
        return (part == 0 ? above : below) / common;
    }

    private static int gcd(int a, int b) {
        return b == 0 ? a : gcd(b, a % b);
    }

    int year(int z, int n, int what) {
        if (z < 0 || z > 9999 || n < 1 || n > 60 || what < 0 || what > 1) return BAD;
        State s = now.copy();
        int came = 0;
        for (int k = 0; k < n; k++) {
            long x = 7919L * z + 6151L * k + 1;
            long draw = x * x % 65521 / 2;
            s.sashes[(int) (draw % houses())] = (int) (draw / 16 % 7);
            State next = ahead(s, 1);
            for (int i = 0; i < news.size(); i++) came += sum(next.knows[i]) - sum(s.knows[i]);
            s = next;
        }
        return what == 0 ? housesThatKnow(s) : came;
    }

    private int housesThatKnow(State s) {
        int sum = 0;
        for (int h = 0; h < houses(); h++) {
            boolean any = false;
            for (boolean[] knows : s.knows) any |= knows[h];
            sum += any ? 1 : 0;
        }
        return sum;
    }

    int keep() {
        if (kept.size() == 2) return FULL;
        kept.push(now.copy());
        return kept.size();
    }

    int back() {
        if (kept.isEmpty()) return NO;
        now = kept.pop();
        undone.clear();
        return kept.size();
    }

    int count(int what) {
        int[] counts = {houses(), rows, news.size(), winds.size(), now.steps, housesThatKnow(now),
            seen.size(), undone.size(), kept.size(), text.length()};
        return what < 0 || what > 9 ? BAD : counts[what];
    }
}
