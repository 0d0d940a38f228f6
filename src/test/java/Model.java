import java.util.ArrayList;
import java.util.Arrays;
import java.util.List;

/** The document done again in another way, by trying all out, for ModelTest to compare with. */
final class Model {
    private static final long NO = -4611686018427387904L;
    private static final int[][] STEP = {{1, 0}, {1, 1}, {0, 1}, {-1, 1}, {-1, 0}, {-1, -1}, {0, -1}, {1, -1}};
    private static final List<String> NAMES = List.of("wind", "area", "deep", "out", "bed", "heavy");
    private static final List<String> KEYS = List.of("pull", "hold", "jerk", "or", "and", "not");

    private interface Expression {
        int of(int[] names);
    }

    private static final class Fault extends RuntimeException {
        private static final long serialVersionUID = 1;
        final int place;

        Fault(int place) {
            this.place = place;
        }
    }

    private static final class Boat {
        int kind, area, heavy, more, cell, out;

        Boat copy() {
            Boat b = new Boat();
            b.kind = kind;
            b.area = area;
            b.heavy = heavy;
            b.more = more;
            b.cell = cell;
            b.out = out;
            return b;
        }
    }

    /** How a boat stands behind an hour. */
    private record Stand(int hour, int anchor, int lies, boolean dragged) {
    }

    private record Meeting(int hour, int one, int other) {
    }

    private record Trials(int held, int all) {
    }

    private final int[][] cells = new int[2][100];
    private final int[][] hours = new int[3][12];
    private final List<Expression[]> texts = new ArrayList<>();
    private final List<Boat> boats = new ArrayList<>();
    private final StringBuilder tape = new StringBuilder();
    private final Trials[][] trials = new Trials[5][4];
    private final int[][] sheets = new int[4][];
    private final int[] sorts = new int[4];
    private int now = 0;
    private int law = 0;
    private List<Boat> keptBoats = null;
    private Trials[][] keptTrials = null;
    private int keptNow = 0;
    private int keptLaw = 0;

    Model() {
        Arrays.fill(cells[0], 5);
        Arrays.fill(hours[1], 20);
        for (Trials[] row : trials) {
            Arrays.fill(row, new Trials(0, 0));
        }
        texts.add(new Parser("pull wind * area ; hold 60 + heavy * 10 - bed * 20 ; jerk wind - out ; ").text());
    }

    private static boolean in(int v, int least, int most) {
        return least <= v && v <= most;
    }

    private static final int[][] CELL_BOUNDS = {{0, 30}, {0, 3}};
    private static final int[][] HOUR_BOUNDS = {{0, 7}, {0, 99}, {-3, 3}};

    int sound(int c, int what, int v) {
        if (!in(c, 0, 99)) {
            return -5;
        }
        if (!in(what, 0, 1) || !in(v, CELL_BOUNDS[what][0], CELL_BOUNDS[what][1])) {
            return -7;
        }
        int was = cells[what][c];
        cells[what][c] = v;
        return was;
    }

    int chart(int c, int shape, int what, int v) {
        if (!in(c, 0, 99) || !in(shape, 0, 99) || !in(shape / 10, 1, 9) || !in(shape % 10, 1, 9)) {
            return -2;
        }
        if (!in(what, 0, 1) || !in(v, CELL_BOUNDS[what][0], CELL_BOUNDS[what][1])) {
            return -7;
        }
        int many = 0;
        for (int d = 0; d < 100; d++) {
            if (in(d / 10 - c / 10, 0, shape / 10 - 1) && in(d % 10 - c % 10, 0, shape % 10 - 1)) {
                cells[what][d] = v;
                many++;
            }
        }
        return many;
    }

    int blow(int h, int what, int v) {
        if (!in(h, 0, 11)) {
            return -5;
        }
        if (!in(what, 0, 2) || !in(v, HOUR_BOUNDS[what][0], HOUR_BOUNDS[what][1])) {
            return -7;
        }
        int was = hours[what][h];
        hours[what][h] = v;
        return was;
    }

    int told(int i, int what) {
        if (!in(what, 0, 4)) {
            return -7;
        }
        int[] row = what < 2 ? cells[what] : hours[what - 2];
        return in(i, 0, row.length - 1) ? row[i] : -5;
    }

    int count(int what) {
        int[] all = {now, boats.size(), texts.size(), law, tape.length()};
        return in(what, 0, 4) ? all[what] : -2;
    }

    int feed(int n, int a, int b, int c, int d, int e) {
        int[] bytes = {a, b, c, d, e};
        if (!in(n, 1, 5) || Arrays.stream(bytes).anyMatch(v -> !in(v, 0, 255))) {
            return -2;
        }
        if (tape.length() + n > 160) {
            return -4;
        }
        Arrays.stream(bytes).limit(n).forEach(v -> tape.append((char) v));
        return tape.length();
    }

    int text() {
        if (texts.size() == 6) {
            return -4;
        }
        String read = tape.toString();
        tape.setLength(0);
        try {
            texts.add(new Parser(read).text());
            return texts.size() - 1;
        } catch (Fault fault) {
            return -100 - fault.place;
        }
    }

    int force(int t) {
        if (!in(t, 0, texts.size() - 1)) {
            return -2;
        }
        int was = law;
        law = t;
        return was;
    }

    private static int said(Expression[] text, int part, int[] names) {
        return Math.max(0, Math.min(part == 2 ? 100 : 999, text[part].of(names)));
    }

    int asks(int part, int windArea, int deepOut, int bedHeavy) {
        if (!in(part, 0, 2) || !in(windArea, 0, 9999) || !in(deepOut, 0, 9999) || !in(bedHeavy, 0, 39)) {
            return -2;
        }
        int[] names = {windArea / 100, windArea % 100, deepOut / 100, deepOut % 100, bedHeavy / 10, bedHeavy % 10};
        return said(texts.get(law), part, names);
    }

    int boat(int kind, int what, int c, int much) {
        if (!in(kind, 0, 5) || !in(what, 0, 999) || !in(c, 0, 99) || !in(much, 1, 40)) {
            return -2;
        }
        if (boats.size() == 6) {
            return -4;
        }
        Boat b = new Boat();
        b.kind = kind;
        b.area = what / 100;
        b.heavy = what / 10 % 10;
        b.more = what % 10;
        b.cell = c;
        b.out = much;
        boats.add(b);
        return boats.size() - 1;
    }

    private Boat of(int i) {
        return in(i, 0, boats.size() - 1) ? boats.get(i) : null;
    }

    int let(int i, int what, int v) {
        Boat b = of(i);
        if (b == null) {
            return -5;
        }
        if (what == 0 && in(v, 0, 99)) {
            int was = b.cell;
            b.cell = v;
            return was;
        }
        if (what == 1 && in(v, 1, 40)) {
            int was = b.out;
            b.out = v;
            return was;
        }
        return -7;
    }

    int boatTold(int i, int what) {
        Boat b = of(i);
        if (b == null) {
            return -5;
        }
        int[] all = {b.kind, b.area, b.heavy, b.more, b.cell, b.out};
        return in(what, 0, 5) ? all[what] : -7;
    }

    private int deep(int c, int h) {
        return Math.max(0, cells[0][c] + hours[2][h]);
    }

    private int said(Boat b, int h, int part, Expression[] text, int wind) {
        return said(text, part, new int[] {wind, b.area, deep(b.cell, h), b.out, cells[1][b.cell], b.heavy});
    }

    private int pull(Boat b, int h) {
        return said(b, h, 0, texts.get(law), hours[1][h]);
    }

    private int power(Boat b, int h) {
        return power(b, h, texts.get(law), hours[1][h]);
    }

    private int power(Boat b, int h, Expression[] text, int wind) {
        int hold = said(b, h, 1, text, wind);
        int dug = 3 * hold / 2;
        int[] made = {hold, dug, hold, hold / 4, dug, dug + 10 * b.more};
        int deep = deep(b.cell, h);
        return b.out < 3 * deep ? made[b.kind] * b.out / (3 * deep) : made[b.kind];
    }

    private int off(Boat b, int h) {
        int deep = deep(b.cell, h);
        return b.out > deep ? (int) Math.floor(Math.sqrt(b.out * b.out - deep * deep)) / 5 : 0;
    }

    private int lies(Boat b, int h, int way) {
        for (int k = off(b, h); k > 0; k--) {
            int y = b.cell / 10 + k * STEP[way][0];
            int x = b.cell % 10 + k * STEP[way][1];
            if (in(y, 0, 9) && in(x, 0, 9)) {
                return 10 * y + x;
            }
        }
        return b.cell;
    }

    private int turn(int h) {
        int apart = h == 0 ? 0 : Math.floorMod(hours[0][h] - hours[0][h - 1], 8);
        return Math.min(apart, 8 - apart);
    }

    private boolean goesOn(Boat b, int h, int wind, Expression[] text, int less, int more) {
        boolean breaks = b.kind == 4 && turn(h) > b.more;
        boolean drags = b.kind != 2 || h % 2 == 1;
        return breaks || drags && said(b, h, 0, text, wind) - less > power(b, h, text, wind) + more;
    }

    private int oneOn(int c, int h) {
        int y = c / 10 + STEP[hours[0][h]][0];
        int x = c % 10 + STEP[hours[0][h]][1];
        return in(y, 0, 9) && in(x, 0, 9) ? 10 * y + x : -1;
    }

    private List<Stand> sail(Boat as, int n, Expression[] text, int[] winds) {
        Boat b = as.copy();
        List<Stand> stands = new ArrayList<>();
        for (int h = now; h < now + n; h++) {
            boolean dragged = b.cell != -1 && goesOn(b, h, winds[h], text, 0, 0);
            b.cell = dragged ? oneOn(b.cell, h) : b.cell;
            stands.add(new Stand(h, b.cell, b.cell == -1 ? -1 : lies(b, h, hours[0][h]), dragged));
        }
        return stands;
    }

    private List<Stand> sail(Boat b, int n) {
        return sail(b, n, texts.get(law), hours[1]);
    }

    private static int dragged(List<Stand> stands) {
        return (int) stands.stream().filter(Stand::dragged).count();
    }

    private static int first(List<Stand> stands) {
        return stands.stream().filter(Stand::dragged).mapToInt(Stand::hour).findFirst().orElse(-1);
    }

    private static Stand last(Boat b, List<Stand> stands) {
        return stands.isEmpty() ? new Stand(-1, b.cell, -1, false) : stands.get(stands.size() - 1);
    }

    private boolean badNight(int n) {
        return !in(n, 0, 12 - now);
    }

    int hold(int i, int h, int what) {
        Boat b = of(i);
        if (b == null) {
            return -5;
        }
        if (!in(h, 0, 11) || !in(what, 0, 3)) {
            return -7;
        }
        if (b.cell == -1) {
            return -3;
        }
        int deep = deep(b.cell, h);
        int scope = deep == 0 ? 100 : Math.min(100, 100 * b.out / (3 * deep));
        return new int[] {pull(b, h), power(b, h), off(b, h), scope}[what];
    }

    int night(int n, int i, int what) {
        Boat b = of(i);
        if (b == null) {
            return -5;
        }
        if (badNight(n) || !in(what, 0, 3)) {
            return -7;
        }
        List<Stand> stands = sail(b, n);
        Stand last = last(b, stands);
        return new int[] {last.anchor(), dragged(stands), first(stands), last.lies()}[what];
    }

    private List<Meeting> meetings(int n) {
        List<Meeting> all = new ArrayList<>();
        for (int k = 0; k < n; k++) {
            for (int i = 0; i < boats.size(); i++) {
                for (int j = i + 1; j < boats.size(); j++) {
                    int one = sail(boats.get(i), n).get(k).lies();
                    if (one != -1 && one == sail(boats.get(j), n).get(k).lies()) {
                        all.add(new Meeting(now + k, i, j));
                    }
                }
            }
        }
        return all;
    }

    int fleet(int n, int what) {
        if (badNight(n) || !in(what, 0, 3)) {
            return -2;
        }
        int boat = -1;
        int hour = -1;
        int gone = 0;
        for (int h = 11; h >= 0; h--) {
            for (int i = boats.size() - 1; i >= 0; i--) {
                if (first(sail(boats.get(i), n)) == h) {
                    boat = i;
                    hour = h;
                }
            }
        }
        for (Boat b : boats) {
            gone += b.cell != -1 && last(b, sail(b, n)).anchor() == -1 ? 1 : 0;
        }
        return new int[] {boat, hour, meetings(n).size(), gone}[what];
    }

    int hit(int n, int k, int what) {
        if (badNight(n) || !in(what, 0, 2)) {
            return -2;
        }
        List<Meeting> all = meetings(n);
        if (!in(k, 0, all.size() - 1)) {
            return -1;
        }
        Meeting m = all.get(k);
        return new int[] {m.hour(), m.one(), m.other()}[what];
    }

    int wake(int n) {
        if (badNight(n)) {
            return -2;
        }
        List<Meeting> all = meetings(n);
        if (all.isEmpty()) {
            return -1;
        }
        Meeting m = all.get(0);
        int one = dragged(sail(boats.get(m.one()), n));
        int other = dragged(sail(boats.get(m.other()), n));
        return one >= other ? m.one() : m.other();
    }

    int goOn(int n) {
        if (badNight(n) || now + n == 12) {
            return -2;
        }
        List<Integer> anchors = new ArrayList<>();
        boats.forEach(b -> anchors.add(last(b, sail(b, n)).anchor()));
        for (int i = 0; i < anchors.size(); i++) {
            boats.get(i).cell = anchors.get(i);
        }
        now += n;
        return now;
    }

    int veer(int i, int n) {
        Boat b = of(i);
        if (b == null) {
            return -5;
        }
        if (badNight(n)) {
            return -7;
        }
        if (b.cell == -1) {
            return -3;
        }
        for (int out = 1; out <= 40; out++) {
            Boat as = b.copy();
            as.out = out;
            if (dragged(sail(as, n)) == 0) {
                return out;
            }
        }
        return -1;
    }

    int drop(int i, int n, int what) {
        Boat b = of(i);
        if (b == null) {
            return -5;
        }
        if (badNight(n) || !in(what, 0, 1)) {
            return -7;
        }
        List<Integer> fit = new ArrayList<>();
        int was = b.cell;
        for (int c = 0; c < 100; c++) {
            b.cell = c;
            boolean meets = meetings(n).stream().anyMatch(m -> m.one() == i || m.other() == i);
            if (cells[1][c] != 3 && dragged(sail(b, n)) == 0 && !meets) {
                fit.add(c);
            }
        }
        b.cell = was;
        return what == 1 ? fit.size() : fit.isEmpty() ? -1 : fit.get(0);
    }

    int rings(int i, int j) {
        Boat a = of(i);
        Boat b = of(j);
        if (a == null || b == null || a == b) {
            return -5;
        }
        if (a.cell == -1 || b.cell == -1) {
            return -3;
        }
        int bits = 0;
        for (int way = 0; way < 8; way++) {
            bits += lies(a, now, way) == lies(b, now, way) ? 1 << way : 0;
        }
        return bits;
    }

    int late() {
        for (int i = 0; i < boats.size(); i++) {
            for (int j = 0; j < i; j++) {
                if (rings(i, j) > 0) {
                    return i;
                }
            }
        }
        return -1;
    }

    int alarm(int i, int n, int size) {
        Boat b = of(i);
        if (b == null) {
            return -5;
        }
        if (badNight(n) || !in(size, 0, 10)) {
            return -7;
        }
        if (b.cell == -1) {
            return -3;
        }
        for (Stand s : sail(b, n)) {
            int y = Math.abs(s.lies() / 10 - b.cell / 10);
            int x = Math.abs(s.lies() % 10 - b.cell % 10);
            if (s.lies() == -1 || Math.max(x, y) > size) {
                return s.hour();
            }
        }
        return -1;
    }

    int size(int i, int n, int what) {
        Boat b = of(i);
        if (b == null) {
            return -5;
        }
        if (badNight(n) || !in(what, 0, 1)) {
            return -7;
        }
        if (b.cell == -1) {
            return -3;
        }
        int first = first(sail(b, n));
        int size = 0;
        while (alarm(i, n, size) != -1 && (first == -1 || alarm(i, n, size) < first)) {
            size++;
        }
        int rung = alarm(i, n, size);
        return what == 0 ? size : first == -1 || rung == -1 ? -1 : rung - first;
    }

    int line(int a, int b, int c) {
        if (!in(a, 0, 99) || !in(b, 0, 99) || !in(c, 0, 99) || a == b) {
            return -1000000;
        }
        int left = (b % 10 - a % 10) * (c / 10 - a / 10);
        int right = (b / 10 - a / 10) * (c % 10 - a % 10);
        return left - right;
    }

    int marks(int i, int n, int two, int slip) {
        Boat b = of(i);
        if (b == null) {
            return -5;
        }
        if (badNight(n) || !in(two, 0, 9999) || line(two / 100, two % 100, 0) == -1000000 || !in(slip, 0, 99)) {
            return -7;
        }
        List<Stand> stands = sail(b, n);
        for (Stand s : stands) {
            int then = line(two / 100, two % 100, stands.get(0).lies());
            if (s.lies() == -1 || Math.abs(line(two / 100, two % 100, s.lies()) - then) > slip) {
                return s.hour();
            }
        }
        return -1;
    }

    /** All that a row of acts (their digits to the base of 5, the first one lowest) comes to. */
    private int comesTo(Boat as, int acts, int ahead) {
        Boat b = as.copy();
        int all = 0;
        int added = 0;
        for (int h = now; h < Math.min(12, now + ahead); h++) {
            int act = acts % 5;
            acts /= 5;
            all += new int[] {0, 1, 2, 4, 9}[act];
            if (act == 4) {
                return all;
            }
            b.out = act == 1 ? Math.min(40, b.out + 5) : b.out;
            added += act == 3 ? 50 : 0;
            if (goesOn(b, h, hours[1][h], texts.get(law), act == 2 ? 40 : 0, added)) {
                b.cell = oneOn(b.cell, h);
                all += b.cell == -1 ? 50 : 5;
            }
            if (b.cell == -1) {
                return all;
            }
        }
        return all;
    }

    int next(int i, int ahead, int what) {
        Boat b = of(i);
        if (b == null) {
            return -5;
        }
        if (!in(ahead, 1, 4) || !in(what, 0, 1)) {
            return -7;
        }
        if (b.cell == -1) {
            return -3;
        }
        int[] least = new int[5];
        Arrays.fill(least, Integer.MAX_VALUE);
        for (int acts = 0; acts < 625; acts++) {
            least[acts % 5] = Math.min(least[acts % 5], comesTo(b, acts, ahead));
        }
        int best = Arrays.stream(least).min().getAsInt();
        return what == 1 ? best : Arrays.stream(least).boxed().toList().indexOf(best);
    }

    int two(int i, int h, int ways, int what) {
        Boat b = of(i);
        if (b == null) {
            return -5;
        }
        if (!in(h, 0, 11) || !in(ways, 0, 3) || !in(what, 0, 1)) {
            return -7;
        }
        if (b.cell == -1) {
            return -3;
        }
        int bears = pull(b, h) * new int[] {50, 54, 71, 131}[ways] / 100;
        return what == 0 ? bears : bears > power(b, h) ? 0 : 1;
    }

    int angle(int i, int n) {
        Boat b = of(i);
        if (b == null) {
            return -5;
        }
        if (badNight(n)) {
            return -7;
        }
        if (b.cell == -1) {
            return -3;
        }
        int most = -1;
        for (int ways = 0; ways < 4; ways++) {
            boolean all = true;
            for (int h = now; h < now + n; h++) {
                all &= two(i, h, ways, 1) == 1;
            }
            most = all ? ways : most;
        }
        return most;
    }

    long turns(int i, int n) {
        Boat b = of(i);
        if (b == null || badNight(n)) {
            return NO;
        }
        if (b.cell == -1) {
            return -3;
        }
        long parts = 1000000;
        for (int h = now; h < now + n; h++) {
            int jerk = said(b, h, 2, texts.get(law), hours[1][h]);
            parts = turn(h) >= 3 ? parts * (100 - jerk) / 100 : parts;
        }
        return parts;
    }

    int trial(int form, int ground, int good, int all) {
        if (!in(form, 0, 4) || !in(ground, 0, 3)) {
            return -1;
        }
        if (!in(all, 1, 99) || !in(good, 0, all)) {
            return -2;
        }
        Trials t = trials[form][ground];
        if (t.all() + all > 9999) {
            return -4;
        }
        trials[form][ground] = new Trials(t.held() + good, t.all() + all);
        return t.all() + all;
    }

    private static long part(long above, long below, int part) {
        for (long d = below; d > 1; d--) {
            if (above % d == 0 && below % d == 0) {
                return (part == 0 ? above : below) / d;
            }
        }
        return part == 0 ? above : below;
    }

    long rate(int form, int ground, int part) {
        if (!in(form, 0, 4) || !in(ground, 0, 3) || !in(part, 0, 1)) {
            return NO;
        }
        Trials t = trials[form][ground];
        return part(t.held() + 1, t.all() + 2, part);
    }

    private static boolean less(Trials a, Trials b) {
        return (a.held() + 1L) * (b.all() + 2L) < (b.held() + 1L) * (a.all() + 2L);
    }

    private static int likeliest(Trials[] of) {
        int best = 0;
        for (int f = 0; f < of.length; f++) {
            best = less(of[best], of[f]) ? f : best;
        }
        return best;
    }

    int form(int ground) {
        if (!in(ground, 0, 3)) {
            return -5;
        }
        return likeliest(Arrays.stream(trials).map(row -> row[ground]).toArray(Trials[]::new));
    }

    int joined() {
        return likeliest(Arrays.stream(trials).map(row -> Arrays.stream(row)
            .reduce((a, b) -> less(b, a) ? b : a).get()).toArray(Trials[]::new));
    }

    private int refusal(int s) {
        if (!in(s, 0, 3)) {
            return -2;
        }
        if (sheets[s] == null) {
            return -11;
        }
        return in(sheets[s].length, 1, 12 - now) ? 0 : -2;
    }

    private int judged(Boat b, int[] film, Expression[] text) {
        int[] lies = sail(b, film.length, text, hours[1]).stream().mapToInt(Stand::lies).toArray();
        return Arrays.mismatch(lies, film);
    }

    int judge(int i, int s) {
        if (of(i) == null) {
            return -5;
        }
        return refusal(s) != 0 ? refusal(s) : judged(of(i), sheets[s], texts.get(law));
    }

    int which(int s) {
        if (refusal(s) != 0) {
            return refusal(s);
        }
        int bits = 0;
        for (int i = 0; i < boats.size(); i++) {
            bits += judge(i, s) == -1 ? 1 << i : 0;
        }
        return bits;
    }

    int laws(int i, int s) {
        if (of(i) == null) {
            return -5;
        }
        if (refusal(s) != 0) {
            return refusal(s);
        }
        int bits = 0;
        for (int t = 0; t < texts.size(); t++) {
            bits += judged(of(i), sheets[s], texts.get(t)) == -1 ? 1 << t : 0;
        }
        return bits;
    }

    int film(int i, int s, int n) {
        if (of(i) == null) {
            return -5;
        }
        if (!in(s, 0, 3)) {
            return -2;
        }
        if (badNight(n)) {
            return -7;
        }
        sheets[s] = sail(of(i), n).stream().mapToInt(Stand::lies).toArray();
        sorts[s] = 2;
        return n;
    }

    private int[] winds(long seed) {
        int[] winds = new int[12];
        long lot = seed + 1;
        for (int h = now; h < 12; h++) {
            lot = lot * 48271 % 2147483647;
            winds[h] = Math.max(0, Math.min(99, hours[1][h] + (int) (lot % 41) - 20));
        }
        return winds;
    }

    int drawn(int seed, int n, int i, int what) {
        Boat b = of(i);
        if (b == null) {
            return -5;
        }
        if (!in(seed, 0, 99999) || badNight(n) || !in(what, 0, 2)) {
            return -7;
        }
        List<Stand> stands = sail(b, n, texts.get(law), winds(seed));
        return new int[] {last(b, stands).anchor(), dragged(stands), first(stands)}[what];
    }

    long chance(int i, int seed, int how, int part) {
        Boat b = of(i);
        if (b == null || !in(seed, 0, 99999) || how < 0 || !in(how / 100, 1, 20) || badNight(how % 100)
                || !in(part, 0, 1)) {
            return NO;
        }
        int held = 0;
        for (int k = 0; k < how / 100; k++) {
            held += dragged(sail(b, how % 100, texts.get(law), winds(seed + k))) == 0 ? 1 : 0;
        }
        return part(held, how / 100, part);
    }

    private static Trials[][] copied(Trials[][] all) {
        return Arrays.stream(all).map(Trials[]::clone).toArray(Trials[][]::new);
    }

    int image() {
        keptBoats = boats.stream().map(Boat::copy).toList();
        keptTrials = copied(trials);
        keptNow = now;
        keptLaw = law;
        return boats.size();
    }

    int back() {
        if (keptBoats == null) {
            return -3;
        }
        boats.clear();
        keptBoats.forEach(b -> boats.add(b.copy()));
        System.arraycopy(copied(keptTrials), 0, trials, 0, 5);
        now = keptNow;
        law = keptLaw;
        return boats.size();
    }

    int sheet(int s, int sort, int n) {
        if (!in(s, 0, 3) || !in(sort, -1, 2) || sort != -1 && n > 40) {
            return -2;
        }
        if (sort != -1 && n < 0) {
            return -14;
        }
        sheets[s] = sort == -1 ? null : new int[n];
        sorts[s] = sort;
        return 1;
    }

    int cell(int s, int i, int v) {
        if (!in(s, 0, 3)) {
            return -2;
        }
        if (sheets[s] == null) {
            return -11;
        }
        if (!in(i, 0, sheets[s].length - 1)) {
            return -12;
        }
        sheets[s][i] = new int[] {(byte) v, (short) v, v}[sorts[s]];
        return 1;
    }

    int copy(int s, int i, int other, int j, int n) {
        if (!in(s, 0, 3) || !in(other, 0, 3)) {
            return -2;
        }
        if (sheets[s] == null || sheets[other] == null) {
            return -11;
        }
        if (sorts[s] != sorts[other]) {
            return -13;
        }
        try {
            System.arraycopy(sheets[s], i, sheets[other], j, n);
            return n;
        } catch (IndexOutOfBoundsException outside) {
            return -12;
        }
    }

    int boatsBy(int s, int sort, int at, int n) {
        if (!in(s, 0, 3) || !in(sort, 0, 2) || !in(n, 0, 6)) {
            return -2;
        }
        if (sheets[s] == null) {
            return -11;
        }
        if (sorts[s] != sort) {
            return -13;
        }
        int came = 0;
        try {
            for (int k = 0; k < 4 * n; k += 4) {
                int[] row = sheets[s];
                int[] four = {row[at + k], row[at + k + 1], row[at + k + 2], row[at + k + 3]};
                came += boat(four[0], four[1], four[2], four[3]) >= 0 ? 1 : 0;
            }
            return came;
        } catch (IndexOutOfBoundsException outside) {
            return -12;
        }
    }

    int taken(int c, int kind) {
        if (!in(kind, 0, 6)) {
            return -2;
        }
        if (!in(c, 0, 99)) {
            return -12;
        }
        for (int i = 0; i < boats.size(); i++) {
            if (boats.get(i).cell == c) {
                List<List<Integer>> is = List.of(List.of(0), List.of(0, 1), List.of(0, 2), List.of(0, 3),
                    List.of(0, 1, 4), List.of(0, 1, 5));
                return is.get(boats.get(i).kind).contains(kind) ? i : -13;
            }
        }
        if (cells[0][c] == 0) {
            return -11;
        }
        return kind == 6 ? 10 * cells[0][c] + cells[1][c] : -13;
    }

    /** Tokens as texts, a byte of none as "?" and it; the end as "". */
    private static final class Parser {
        final String all;
        final List<Integer> places = new ArrayList<>();
        final List<String> tokens = new ArrayList<>();
        int at = 0;
        int open = 0;

        Parser(String all) {
            this.all = all;
            java.util.regex.Matcher m = java.util.regex.Pattern.compile("[a-z]+|[0-9]+|[();+*<=-]|[ \n]+|.",
                java.util.regex.Pattern.DOTALL).matcher(all);
            while (m.find()) {
                if (!m.group().isEmpty() && m.group().trim().isEmpty() && m.group().matches("[ \n]+")) {
                    continue;
                }
                places.add(m.start());
                tokens.add(m.group());
            }
            places.add(all.length());
            tokens.add("");
        }

        Expression[] text() {
            Expression[] parts = new Expression[3];
            for (int k = 0; k < 3; k++) {
                take(KEYS.get(k));
                parts[k] = or();
                take(";");
            }
            take("");
            return parts;
        }

        String token() {
            return tokens.get(at);
        }

        Fault fault() {
            return new Fault(places.get(at));
        }

        void take(String what) {
            if (!token().equals(what)) {
                throw fault();
            }
            at++;
        }

        boolean takes(String what) {
            if (token().equals(what)) {
                at++;
                return true;
            }
            return false;
        }

        void opens(String what) {
            if (open == 5) {
                throw fault();
            }
            take(what);
            open++;
        }

        Expression or() {
            Expression left = and();
            while (takes("or")) {
                Expression a = left;
                Expression b = and();
                left = n -> a.of(n) != 0 | b.of(n) != 0 ? 1 : 0;
            }
            return left;
        }

        Expression and() {
            Expression left = not();
            while (takes("and")) {
                Expression a = left;
                Expression b = not();
                left = n -> a.of(n) != 0 & b.of(n) != 0 ? 1 : 0;
            }
            return left;
        }

        Expression not() {
            if (token().equals("not")) {
                opens("not");
                Expression a = not();
                open--;
                return n -> a.of(n) == 0 ? 1 : 0;
            }
            Expression a = sum();
            if (takes("<")) {
                Expression b = sum();
                return n -> a.of(n) < b.of(n) ? 1 : 0;
            }
            if (takes("=")) {
                Expression b = sum();
                return n -> a.of(n) == b.of(n) ? 1 : 0;
            }
            return a;
        }

        Expression sum() {
            Expression left = term();
            while (token().equals("+") || token().equals("-")) {
                boolean plus = takes("+") || !takes("-");
                Expression a = left;
                Expression b = term();
                left = plus ? n -> a.of(n) + b.of(n) : n -> a.of(n) - b.of(n);
            }
            return left;
        }

        Expression term() {
            Expression left = one();
            while (takes("*")) {
                Expression a = left;
                Expression b = one();
                left = n -> a.of(n) * b.of(n);
            }
            return left;
        }

        Expression one() {
            String t = token();
            if (t.equals("-")) {
                opens("-");
                Expression a = one();
                open--;
                return n -> -a.of(n);
            }
            if (t.equals("(")) {
                opens("(");
                Expression a = or();
                take(")");
                open--;
                return a;
            }
            if (t.matches("[0-9]{1,4}")) {
                at++;
                int v = Integer.parseInt(t);
                return n -> v;
            }
            if (!NAMES.contains(t)) {
                throw fault();
            }
            at++;
            int name = NAMES.indexOf(t);
            return n -> n[name];
        }
    }
}
