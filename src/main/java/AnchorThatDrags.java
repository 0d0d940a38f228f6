import java.util.Arrays;

/** Boats at anchor in a bay through a night: who drags, where to, who meets whom, and what helps. */
public final class AnchorThatDrags {
    public static final int NONE = -1, BAD = -2, STATE = -3, FULL = -4;
    public static final long NO = -4611686018427387904L;

    private static final int NO_SUCH = -5, WRONG = -7;
    private static final int MISSING = -11, OUTSIDE = -12, UNLIKE = -13, BELOW_ZERO = -14;
    private static final int NO_LINE = -1000000, FAULT = -100;

    private static final int SIDE = 10, CELLS = 100, HOURS = 12, WAYS = 8;
    private static final int MOST_DEPTH = 30, MOST_STRONG = 99, MOST_TIDE = 3;
    private static final int BEDS = 4, ROCK_BED = 3;
    private static final int[] STEP_Y = {1, 1, 0, -1, -1, -1, 0, 1};
    private static final int[] STEP_X = {0, 1, 1, 1, 0, -1, -1, -1};

    private static final int BOATS = 6, KINDS = 6, MOST_OUT = 40, PAIRS = 15;
    private static final int PLAIN = 0, DUG = 1, PLOUGH = 2, FOULED = 3, ROCKED = 4, DOUBLED = 5, WATER = 6;

    private static final int TAPE = 160, TEXTS = 6, LONGEST_NUMBER = 4, MOST_OPEN = 5;
    private static final int PULL = 0, HOLD = 1, JERK = 2, PARTS = 3;
    private static final int WIND = 0, AREA = 1, DEEP = 2, OUT = 3, BED = 4, HEAVY = 5, NAMES = 6;
    private static final int[] MOST_SAID = {999, 999, 100};
    private static final String FIRST_LAW =
        "pull wind * area ; hold 60 + heavy * 10 - bed * 20 ; jerk wind - out ;";

    private static final int ACTS = 5, LET_OUT = 1, EASE = 2, STRENGTHEN = 3, LEAVE = 4;
    private static final int MOST_AHEAD = 4, STEP_HARM = 5, ASHORE_HARM = 50;
    private static final int[] ACT_COST = {0, 1, 2, 4, 9};

    private static final int[] BORNE = {50, 54, 71, 131};
    private static final int SHARP_TURN = 3;
    private static final long WHOLE = 1000000L;

    private static final int FORMS = 5, MOST_TRIALS = 9999, TRIALS_AT_ONCE = 99;
    private static final int MOST_SEED = 99999, MOST_SEEDS = 20, GUSTS = 41, HALF_GUST = 20;
    private static final long LOT_FACTOR = 48271L, LOT_MODULUS = 2147483647L;

    private static final int SHEETS = 4, LONGEST_SHEET = 40, BOAT_NUMBERS = 4;
    private static final int NO_SORT = -1, BYTES = 0, SHORTS = 1, INTS = 2;

    private final Bay bay = new Bay();
    private final Reader reader = new Reader();
    private final Program[] programs = new Program[TEXTS];
    private final Scales scales = new Scales(bay);
    private final Boat[] boats = new Boat[BOATS];
    private final Course[] courses = new Course[BOATS];
    private final int[] met = new int[PAIRS * HOURS];
    private final int[] gusts = new int[HOURS];
    private final Forms forms = new Forms();
    private final Sheet[] sheets = new Sheet[SHEETS];
    private final Image kept = new Image();
    private int now = 0;
    private int boatCount = 0;
    private int textCount = 1;
    private int law = 0;

    public AnchorThatDrags() {
        for (int i = 0; i < BOATS; i++) {
            courses[i] = new Course();
        }
        for (int s = 0; s < SHEETS; s++) {
            sheets[s] = new Sheet();
        }
        for (int t = 0; t < TEXTS; t++) {
            programs[t] = new Program();
        }
        for (int k = 0; k < FIRST_LAW.length(); k++) {
            reader.add(FIRST_LAW.charAt(k));
        }
        reader.read(programs[0]);
        reader.empty();
        scales.law = programs[0];
    }

    // ---- the bay, the night, the law

    public int sound(int c, int what, int v) {
        if (!isCell(c)) {
            return NO_SUCH;
        }
        if (!isSounding(what, v)) {
            return WRONG;
        }
        int[] row = what == 0 ? bay.depth : bay.bed;
        int was = row[c];
        row[c] = v;
        return was;
    }

    public int chart(int c, int shape, int what, int v) {
        if (!isCell(c) || !within(shape, 11, 99) || shape % 10 == 0) {
            return BAD;
        }
        if (!isSounding(what, v)) {
            return WRONG;
        }
        int[] row = what == 0 ? bay.depth : bay.bed;
        int endY = Math.min(SIDE, c / SIDE + shape / 10);
        int endX = Math.min(SIDE, c % SIDE + shape % 10);
        int many = 0;
        for (int y = c / SIDE; y < endY; y++) {
            for (int x = c % SIDE; x < endX; x++) {
                row[SIDE * y + x] = v;
                many++;
            }
        }
        return many;
    }

    public int blow(int h, int what, int v) {
        if (!isHour(h)) {
            return NO_SUCH;
        }
        if (!isBlowing(what, v)) {
            return WRONG;
        }
        int[] row = bay.hourRow(what);
        int was = row[h];
        row[h] = v;
        return was;
    }

    public int told(int i, int what) {
        if (!within(what, 0, 4)) {
            return WRONG;
        }
        if (what >= 2) {
            return isHour(i) ? bay.hourRow(what - 2)[i] : NO_SUCH;
        }
        if (!isCell(i)) {
            return NO_SUCH;
        }
        return what == 0 ? bay.depth[i] : bay.bed[i];
    }

    public int count(int what) {
        switch (what) {
            case 0: return now;
            case 1: return boatCount;
            case 2: return textCount;
            case 3: return law;
            case 4: return reader.size;
            default: return BAD;
        }
    }

    public int feed(int n, int a, int b, int c, int d, int e) {
        if (!within(n, 1, 5) || !isByte(a) || !isByte(b) || !isByte(c) || !isByte(d) || !isByte(e)) {
            return BAD;
        }
        if (reader.size + n > TAPE) {
            return FULL;
        }
        reader.add(a);
        if (n > 1) {
            reader.add(b);
        }
        if (n > 2) {
            reader.add(c);
        }
        if (n > 3) {
            reader.add(d);
        }
        if (n > 4) {
            reader.add(e);
        }
        return reader.size;
    }

    public int text() {
        if (textCount >= TEXTS) {
            return FULL;
        }
        int fault = reader.read(programs[textCount]);
        reader.empty();
        if (fault != NONE) {
            return FAULT - fault;
        }
        textCount++;
        return textCount - 1;
    }

    public int force(int t) {
        if (!within(t, 0, textCount - 1)) {
            return BAD;
        }
        int was = law;
        rule(t);
        return was;
    }

    public int asks(int part, int windArea, int deepOut, int bedHeavy) {
        if (!within(part, PULL, JERK) || !within(windArea, 0, 9999) || !within(deepOut, 0, 9999)
                || !within(bedHeavy, 0, 39)) {
            return BAD;
        }
        int[] names = scales.names;
        names[WIND] = windArea / 100;
        names[AREA] = windArea % 100;
        names[DEEP] = deepOut / 100;
        names[OUT] = deepOut % 100;
        names[BED] = bedHeavy / 10;
        names[HEAVY] = bedHeavy % 10;
        return scales.says(part);
    }

    // ---- boats

    public int boat(int kind, int what, int c, int much) {
        if (!within(kind, 0, KINDS - 1) || !within(what, 0, 999) || !isCell(c) || !within(much, 1, MOST_OUT)) {
            return BAD;
        }
        if (boatCount >= BOATS) {
            return FULL;
        }
        boats[boatCount] = new Boat(kind, what, c, much);
        boatCount++;
        return boatCount - 1;
    }

    public int let(int i, int what, int v) {
        Boat b = boatOf(i);
        if (b == null) {
            return NO_SUCH;
        }
        if (what == 0 && isCell(v)) {
            int was = b.cell;
            b.cell = v;
            return was;
        }
        if (what == 1 && within(v, 1, MOST_OUT)) {
            int was = b.out;
            b.out = v;
            return was;
        }
        return WRONG;
    }

    public int boatTold(int i, int what) {
        Boat b = boatOf(i);
        if (b == null) {
            return NO_SUCH;
        }
        switch (what) {
            case 0: return b.kind;
            case 1: return b.area;
            case 2: return b.heavy;
            case 3: return b.more;
            case 4: return b.cell;
            case 5: return b.out;
            default: return WRONG;
        }
    }

    public int hold(int i, int h, int what) {
        Boat b = boatOf(i);
        int refused = refusal(b, isHour(h) && within(what, 0, 3));
        if (b == null || refused != 0) {
            return refused;
        }
        int deep = bay.deepOf(b.cell, h);
        switch (what) {
            case 0: return scales.pullOn(b, b.cell, b.out, h);
            case 1: return scales.powerOf(b, b.cell, b.out, h);
            case 2: return Bay.cellsOff(b.out, deep);
            default: return deep <= 0 ? 100 : Math.min(100, 100 * b.out / (3 * deep));
        }
    }

    // ---- nights

    public int night(int n, int i, int what) {
        Boat b = boatOf(i);
        if (b == null) {
            return NO_SUCH;
        }
        if (!isNight(n) || !within(what, 0, 3)) {
            return WRONG;
        }
        Course course = sailed(i, b, n);
        switch (what) {
            case 0: return course.cell;
            case 1: return course.dragged;
            case 2: return course.first;
            default: return n == 0 ? NONE : course.liesIn(now + n - 1);
        }
    }

    public int fleet(int n, int what) {
        if (!isNight(n) || !within(what, 0, 3)) {
            return BAD;
        }
        sailAll(n);
        if (what == 2) {
            return meetings(n);
        }
        if (what == 3) {
            return lost();
        }
        int first = firstToDrag();
        return what == 0 || first == NONE ? first : courses[first].first;
    }

    public int hit(int n, int k, int what) {
        if (!isNight(n) || !within(what, 0, 2)) {
            return BAD;
        }
        sailAll(n);
        if (!within(k, 0, meetings(n) - 1)) {
            return NONE;
        }
        switch (what) {
            case 0: return met[k] / 100;
            case 1: return met[k] / 10 % 10;
            default: return met[k] % 10;
        }
    }

    public int wake(int n) {
        if (!isNight(n)) {
            return BAD;
        }
        sailAll(n);
        if (meetings(n) == 0) {
            return NONE;
        }
        int one = met[0] / 10 % 10;
        int other = met[0] % 10;
        return courses[other].dragged > courses[one].dragged ? other : one;
    }

    public int goOn(int n) {
        if (!within(n, 0, HOURS - 1 - now)) {
            return BAD;
        }
        sailAll(n);
        for (int i = 0; i < boatCount; i++) {
            boats[i].cell = courses[i].cell;
        }
        now += n;
        return now;
    }

    // ---- how much out, where to drop

    public int veer(int i, int n) {
        Boat b = boatOf(i);
        int refused = refusal(b, isNight(n));
        if (b == null || refused != 0) {
            return refused;
        }
        for (int out = 1; out <= MOST_OUT; out++) {
            if (stays(b, b.cell, out, n)) {
                return out;
            }
        }
        return NONE;
    }

    public int drop(int i, int n, int what) {
        Boat b = boatOf(i);
        if (b == null) {
            return NO_SUCH;
        }
        if (!isNight(n) || !within(what, 0, 1)) {
            return WRONG;
        }
        sailAll(n);
        int first = NONE;
        int many = 0;
        for (int c = 0; c < CELLS; c++) {
            if (bay.bed[c] != ROCK_BED && stays(b, c, b.out, n) && !meetsAnother(i, b, c, n)) {
                first = first == NONE ? c : first;
                many++;
            }
        }
        return what == 0 ? first : many;
    }

    public int rings(int i, int j) {
        Boat a = boatOf(i);
        Boat b = boatOf(j);
        if (a == null || b == null || i == j) {
            return NO_SUCH;
        }
        return a.isGone() || b.isGone() ? STATE : waysToMeet(a, b);
    }

    public int late() {
        for (int i = 1; i < boatCount; i++) {
            for (int j = 0; j < i; j++) {
                if (!boats[i].isGone() && !boats[j].isGone() && waysToMeet(boats[i], boats[j]) != 0) {
                    return i;
                }
            }
        }
        return NONE;
    }

    // ---- alarms, marks

    public int alarm(int i, int n, int size) {
        Boat b = boatOf(i);
        int refused = refusal(b, isNight(n) && within(size, 0, SIDE));
        if (b == null || refused != 0) {
            return refused;
        }
        return sailed(i, b, n).firstBeyond(size, b.cell, now, now + n);
    }

    public int size(int i, int n, int what) {
        Boat b = boatOf(i);
        int refused = refusal(b, isNight(n) && within(what, 0, 1));
        if (b == null || refused != 0) {
            return refused;
        }
        Course course = sailed(i, b, n);
        boolean dragged = course.first != NONE;
        int least = course.farthest(b.cell, now, dragged ? course.first : now + n);
        if (what == 0) {
            return least;
        }
        int rung = dragged ? course.firstBeyond(least, b.cell, now, now + n) : NONE;
        return rung == NONE ? NONE : rung - course.first;
    }

    public int line(int a, int b, int c) {
        return !isCell(a) || !isCell(b) || !isCell(c) || a == b ? NO_LINE : sideOf(a, b, c);
    }

    public int marks(int i, int n, int two, int slip) {
        Boat b = boatOf(i);
        if (b == null) {
            return NO_SUCH;
        }
        if (!isNight(n) || !within(two, 0, 9999) || two / 100 == two % 100 || !within(slip, 0, 99)) {
            return WRONG;
        }
        Course course = sailed(i, b, n);
        int atFirst = 0;
        for (int h = now; h < now + n; h++) {
            int lies = course.liesIn(h);
            if (lies == NONE) {
                return h;
            }
            int side = sideOf(two / 100, two % 100, lies);
            atFirst = h == now ? side : atFirst;
            if (Math.abs(side - atFirst) > slip) {
                return h;
            }
        }
        return NONE;
    }

    // ---- what next, two anchors, turns

    public int next(int i, int ahead, int what) {
        Boat b = boatOf(i);
        int refused = refusal(b, within(ahead, 1, MOST_AHEAD) && within(what, 0, 1));
        if (b == null || refused != 0) {
            return refused;
        }
        int end = Math.min(HOURS, now + ahead);
        int best = 0;
        int least = dueWith(0, b, b.cell, b.out, 0, now, end);
        for (int act = 1; act < ACTS; act++) {
            int due = dueWith(act, b, b.cell, b.out, 0, now, end);
            if (due < least) {
                best = act;
                least = due;
            }
        }
        return what == 0 ? best : least;
    }

    public int two(int i, int h, int ways, int what) {
        Boat b = boatOf(i);
        int refused = refusal(b, isHour(h) && within(ways, 0, 3) && within(what, 0, 1));
        if (b == null || refused != 0) {
            return refused;
        }
        if (what == 0) {
            return borneByEach(b, h, ways);
        }
        return twoHold(b, h, ways) ? 1 : 0;
    }

    public int angle(int i, int n) {
        Boat b = boatOf(i);
        int refused = refusal(b, isNight(n));
        if (b == null || refused != 0) {
            return refused;
        }
        for (int ways = 3; ways >= 0; ways--) {
            if (twoHoldAll(b, n, ways)) {
                return ways;
            }
        }
        return NONE;
    }

    public long turns(int i, int n) {
        Boat b = boatOf(i);
        if (b == null || !isNight(n)) {
            return NO;
        }
        if (b.isGone()) {
            return STATE;
        }
        long parts = WHOLE;
        for (int h = now; h < now + n; h++) {
            if (bay.turnIn(h) >= SHARP_TURN) {
                parts = parts * (100 - scales.jerkOn(b, b.cell, b.out, h)) / 100;
            }
        }
        return parts;
    }

    // ---- forms

    public int trial(int form, int ground, int good, int all) {
        if (!isFormIn(form, ground)) {
            return NONE;
        }
        if (!within(all, 1, TRIALS_AT_ONCE) || !within(good, 0, all)) {
            return BAD;
        }
        int place = BEDS * form + ground;
        if (forms.tried[place] + all > MOST_TRIALS) {
            return FULL;
        }
        forms.tried[place] += all;
        forms.held[place] += good;
        return forms.tried[place];
    }

    public long rate(int form, int ground, int part) {
        if (!isFormIn(form, ground) || !within(part, 0, 1)) {
            return NO;
        }
        return partOf(forms.above(form, ground), forms.below(form, ground), part);
    }

    public int form(int ground) {
        if (!within(ground, 0, BEDS - 1)) {
            return NO_SUCH;
        }
        int best = 0;
        for (int f = 1; f < FORMS; f++) {
            if (forms.isLikelier(f, ground, best, ground)) {
                best = f;
            }
        }
        return best;
    }

    public int joined() {
        int best = 0;
        for (int f = 1; f < FORMS; f++) {
            if (forms.isLikelier(f, forms.worstBed(f), best, forms.worstBed(best))) {
                best = f;
            }
        }
        return best;
    }

    // ---- looks

    public int judge(int i, int s) {
        Boat b = boatOf(i);
        if (b == null) {
            return NO_SUCH;
        }
        Sheet film = sheetOf(s);
        int refused = filmRefusal(film);
        return film == null || refused != 0 ? refused : firstElsewhere(i, b, film);
    }

    public int which(int s) {
        Sheet film = sheetOf(s);
        int refused = filmRefusal(film);
        if (film == null || refused != 0) {
            return refused;
        }
        int bits = 0;
        for (int i = 0; i < boatCount; i++) {
            if (firstElsewhere(i, boats[i], film) == NONE) {
                bits |= 1 << i;
            }
        }
        return bits;
    }

    public int laws(int i, int s) {
        Boat b = boatOf(i);
        if (b == null) {
            return NO_SUCH;
        }
        Sheet film = sheetOf(s);
        int refused = filmRefusal(film);
        if (film == null || refused != 0) {
            return refused;
        }
        int bits = 0;
        for (int t = 0; t < textCount; t++) {
            scales.law = programs[t];
            if (firstElsewhere(i, b, film) == NONE) {
                bits |= 1 << t;
            }
        }
        scales.law = programs[law];
        return bits;
    }

    public int film(int i, int s, int n) {
        Boat b = boatOf(i);
        if (b == null) {
            return NO_SUCH;
        }
        Sheet film = sheetOf(s);
        if (film == null) {
            return BAD;
        }
        if (!isNight(n)) {
            return WRONG;
        }
        Course course = sailed(i, b, n);
        film.become(INTS, n);
        for (int k = 0; k < n; k++) {
            film.put(k, course.liesIn(now + k));
        }
        return n;
    }

    // ---- gusts

    public int drawn(int seed, int n, int i, int what) {
        Boat b = boatOf(i);
        if (b == null) {
            return NO_SUCH;
        }
        if (!within(seed, 0, MOST_SEED) || !isNight(n) || !within(what, 0, 2)) {
            return WRONG;
        }
        draw(seed);
        scales.winds = gusts;
        Course course = sailed(i, b, n);
        scales.winds = bay.strong;
        switch (what) {
            case 0: return course.cell;
            case 1: return course.dragged;
            default: return course.first;
        }
    }

    public long chance(int i, int seed, int how, int part) {
        Boat b = boatOf(i);
        if (b == null || !within(seed, 0, MOST_SEED) || !within(how / 100, 1, MOST_SEEDS)
                || !isNight(how % 100) || !within(part, 0, 1)) {
            return NO;
        }
        int seeds = how / 100;
        int held = 0;
        scales.winds = gusts;
        for (int k = 0; k < seeds; k++) {
            draw(seed + k);
            if (b.isGone() || stays(b, b.cell, b.out, how % 100)) {
                held++;
            }
        }
        scales.winds = bay.strong;
        return partOf(held, seeds, part);
    }

    public int image() {
        for (int i = 0; i < boatCount; i++) {
            kept.cells[i] = boats[i].cell;
            kept.outs[i] = boats[i].out;
        }
        kept.forms.takeOver(forms);
        kept.boats = boatCount;
        kept.now = now;
        kept.law = law;
        return boatCount;
    }

    public int back() {
        if (kept.boats == NONE) {
            return STATE;
        }
        boatCount = Math.min(boatCount, kept.boats);
        for (int i = 0; i < boatCount; i++) {
            boats[i].cell = kept.cells[i];
            boats[i].out = kept.outs[i];
        }
        forms.takeOver(kept.forms);
        now = kept.now;
        rule(kept.law);
        return boatCount;
    }

    // ---- the host

    public int sheet(int s, int sort, int n) {
        Sheet sheet = sheetOf(s);
        if (sheet == null || !within(sort, NO_SORT, INTS)) {
            return BAD;
        }
        if (sort == NO_SORT) {
            sheet.become(NO_SORT, 0);
            return 1;
        }
        if (n > LONGEST_SHEET) {
            return BAD;
        }
        if (n < 0) {
            return BELOW_ZERO;
        }
        sheet.become(sort, n);
        return 1;
    }

    public int cell(int s, int i, int v) {
        Sheet sheet = sheetOf(s);
        if (sheet == null) {
            return BAD;
        }
        if (sheet.isMissing()) {
            return MISSING;
        }
        if (!within(i, 0, sheet.size - 1)) {
            return OUTSIDE;
        }
        sheet.put(i, v);
        return 1;
    }

    public int copy(int s, int i, int other, int j, int n) {
        Sheet from = sheetOf(s);
        Sheet to = sheetOf(other);
        if (from == null || to == null) {
            return BAD;
        }
        if (from.isMissing() || to.isMissing()) {
            return MISSING;
        }
        if (from.sort != to.sort) {
            return UNLIKE;
        }
        if (!from.hasRun(i, n) || !to.hasRun(j, n)) {
            return OUTSIDE;
        }
        System.arraycopy(from.row, i, to.row, j, n);
        return n;
    }

    public int boatsBy(int s, int sort, int at, int n) {
        Sheet sheet = sheetOf(s);
        if (sheet == null || !within(sort, BYTES, INTS) || !within(n, 0, BOATS)) {
            return BAD;
        }
        if (sheet.isMissing()) {
            return MISSING;
        }
        if (sheet.sort != sort) {
            return UNLIKE;
        }
        int came = 0;
        for (int k = 0; k < n; k++) {
            int p = at + BOAT_NUMBERS * k;
            if (!sheet.hasRun(p, BOAT_NUMBERS)) {
                return OUTSIDE;
            }
            if (boat(sheet.row[p], sheet.row[p + 1], sheet.row[p + 2], sheet.row[p + 3]) >= 0) {
                came++;
            }
        }
        return came;
    }

    public int taken(int c, int kind) {
        if (!within(kind, PLAIN, WATER)) {
            return BAD;
        }
        if (!isCell(c)) {
            return OUTSIDE;
        }
        for (int i = 0; i < boatCount; i++) {
            if (boats[i].cell == c) {
                return boats[i].isA(kind) ? i : UNLIKE;
            }
        }
        if (bay.depth[c] <= 0) {
            return MISSING;
        }
        return kind == WATER ? 10 * bay.depth[c] + bay.bed[c] : UNLIKE;
    }

    // ---- what is there, and what may be told

    private static boolean within(int v, int least, int most) {
        return v >= least && v <= most;
    }

    private static boolean isCell(int c) {
        return within(c, 0, CELLS - 1);
    }

    private static boolean isHour(int h) {
        return within(h, 0, HOURS - 1);
    }

    private static boolean isByte(int v) {
        return within(v, 0, 255);
    }

    private static boolean isFormIn(int form, int ground) {
        return within(form, 0, FORMS - 1) && within(ground, 0, BEDS - 1);
    }

    private static boolean isSounding(int what, int v) {
        return what == 0 && within(v, 0, MOST_DEPTH) || what == 1 && within(v, 0, BEDS - 1);
    }

    private static boolean isBlowing(int what, int v) {
        switch (what) {
            case 0: return within(v, 0, WAYS - 1);
            case 1: return within(v, 0, MOST_STRONG);
            case 2: return within(v, -MOST_TIDE, MOST_TIDE);
            default: return false;
        }
    }

    private boolean isNight(int n) {
        return within(n, 0, HOURS - now);
    }

    private Boat boatOf(int i) {
        return within(i, 0, boatCount - 1) ? boats[i] : null;
    }

    /** What refuses a call that asks of a boat not gone, with numbers fine or not; 0: nothing does. */
    private static int refusal(Boat b, boolean fine) {
        if (b == null) {
            return NO_SUCH;
        }
        if (!fine) {
            return WRONG;
        }
        return b.isGone() ? STATE : 0;
    }

    private Sheet sheetOf(int s) {
        return within(s, 0, SHEETS - 1) ? sheets[s] : null;
    }

    private void rule(int t) {
        law = t;
        scales.law = programs[t];
    }

    // ---- how boats fare

    private Course sailed(int i, Boat b, int n) {
        Course course = courses[i];
        course.sail(scales, b, now, now + n);
        return course;
    }

    private void sailAll(int n) {
        for (int i = 0; i < boatCount; i++) {
            courses[i].sail(scales, boats[i], now, now + n);
        }
    }

    private boolean stays(Boat b, int c, int out, int n) {
        for (int h = now; h < now + n; h++) {
            if (scales.goesOn(b, c, out, h, 0, 0)) {
                return false;
            }
        }
        return true;
    }

    /** All courses have to be sailed for n hours first. */
    private int meetings(int n) {
        int many = 0;
        for (int h = now; h < now + n; h++) {
            for (int i = 0; i < boatCount; i++) {
                for (int j = i + 1; j < boatCount; j++) {
                    if (courses[i].meetsIn(h, courses[j].liesIn(h)) && many < met.length) {
                        met[many] = 100 * h + 10 * i + j;
                        many++;
                    }
                }
            }
        }
        return many;
    }

    /** All courses have to be sailed first. */
    private int firstToDrag() {
        int first = NONE;
        for (int i = 0; i < boatCount; i++) {
            boolean dragged = courses[i].first != NONE;
            if (dragged && (first == NONE || courses[i].first < courses[first].first)) {
                first = i;
            }
        }
        return first;
    }

    /** All courses have to be sailed first. */
    private int lost() {
        int many = 0;
        for (int i = 0; i < boatCount; i++) {
            if (!boats[i].isGone() && courses[i].cell == NONE) {
                many++;
            }
        }
        return many;
    }

    /** Whether a boat that stays in c meets one of the others, whose courses have to be sailed first. */
    private boolean meetsAnother(int i, Boat b, int c, int n) {
        for (int h = now; h < now + n; h++) {
            int lies = bay.liesAt(c, b.out, h, bay.way[h]);
            for (int j = 0; j < boatCount; j++) {
                if (j != i && courses[j].meetsIn(h, lies)) {
                    return true;
                }
            }
        }
        return false;
    }

    private int waysToMeet(Boat a, Boat b) {
        int bits = 0;
        for (int way = 0; way < WAYS; way++) {
            if (bay.liesAt(a.cell, a.out, now, way) == bay.liesAt(b.cell, b.out, now, way)) {
                bits |= 1 << way;
            }
        }
        return bits;
    }

    private static int sideOf(int a, int b, int c) {
        int ax = a % SIDE;
        int ay = a / SIDE;
        return (b % SIDE - ax) * (c / SIDE - ay) - (b / SIDE - ay) * (c % SIDE - ax);
    }

    /** Harm and costs from hour h on, at the least; out and added as the acts ahead have left them. */
    private int leastDue(Boat b, int c, int out, int added, int h, int end) {
        if (h >= end) {
            return 0;
        }
        int least = dueWith(0, b, c, out, added, h, end);
        for (int act = 1; act < ACTS; act++) {
            least = Math.min(least, dueWith(act, b, c, out, added, h, end));
        }
        return least;
    }

    private int dueWith(int act, Boat b, int c, int out, int added, int h, int end) {
        int cost = ACT_COST[act];
        if (act == LEAVE || h >= end) {
            return cost;
        }
        int outThen = act == LET_OUT ? Math.min(MOST_OUT, out + 5) : out;
        int addedThen = act == STRENGTHEN ? added + 50 : added;
        int eased = act == EASE ? 40 : 0;
        if (!scales.goesOn(b, c, outThen, h, eased, addedThen)) {
            return cost + leastDue(b, c, outThen, addedThen, h + 1, end);
        }
        int further = bay.oneOn(c, h);
        if (further == NONE) {
            return cost + ASHORE_HARM;
        }
        return cost + STEP_HARM + leastDue(b, further, outThen, addedThen, h + 1, end);
    }

    private int borneByEach(Boat b, int h, int ways) {
        return scales.pullOn(b, b.cell, b.out, h) * BORNE[ways] / 100;
    }

    private boolean twoHold(Boat b, int h, int ways) {
        return borneByEach(b, h, ways) <= scales.powerOf(b, b.cell, b.out, h);
    }

    private boolean twoHoldAll(Boat b, int n, int ways) {
        for (int h = now; h < now + n; h++) {
            if (!twoHold(b, h, ways)) {
                return false;
            }
        }
        return true;
    }

    /** What refuses a film; 0: nothing does. */
    private int filmRefusal(Sheet film) {
        if (film == null) {
            return BAD;
        }
        if (film.isMissing()) {
            return MISSING;
        }
        return within(film.size, 1, HOURS - now) ? 0 : BAD;
    }

    private int firstElsewhere(int i, Boat b, Sheet film) {
        Course course = courses[i];
        course.sail(scales, b, now, now + film.size);
        for (int k = 0; k < film.size; k++) {
            if (film.row[k] != course.liesIn(now + k)) {
                return k;
            }
        }
        return NONE;
    }

    private void draw(int seed) {
        long lot = seed + 1L;
        for (int h = now; h < HOURS; h++) {
            lot = lot * LOT_FACTOR % LOT_MODULUS;
            int wind = bay.strong[h] + (int) (lot % GUSTS) - HALF_GUST;
            gusts[h] = Math.max(0, Math.min(MOST_STRONG, wind));
        }
    }

    /** The number above (part 0) or below (1) the line, in lowest terms. */
    private static long partOf(int above, int below, int part) {
        int a = above;
        int b = below;
        // Euclid's remainders of numbers below 2 to the 31 end within 47 steps
        for (int k = 0; k < 64 && b != 0; k++) {
            int rest = a % b;
            a = b;
            b = rest;
        }
        int whole = part == 0 ? above : below;
        return a > 0 ? whole / a : whole;
    }

    /** The cells and the hours. */
    private static final class Bay {
        final int[] depth = new int[CELLS];
        final int[] bed = new int[CELLS];
        final int[] way = new int[HOURS];
        final int[] strong = new int[HOURS];
        final int[] tide = new int[HOURS];

        Bay() {
            Arrays.fill(depth, 5);
            Arrays.fill(strong, 20);
        }

        int[] hourRow(int what) {
            switch (what) {
                case 0: return way;
                case 1: return strong;
                default: return tide;
            }
        }

        int deepOf(int c, int h) {
            return within(c, 0, CELLS - 1) && within(h, 0, HOURS - 1) ? Math.max(0, depth[c] + tide[h]) : 0;
        }

        int turnIn(int h) {
            if (!within(h, 1, HOURS - 1)) {
                return 0;
            }
            int apart = Math.abs(way[h] - way[h - 1]);
            return Math.min(apart, WAYS - apart);
        }

        /** The cell one further by the way of the hour; NONE: out of the bay. */
        int oneOn(int c, int h) {
            return isHour(h) ? stepped(c, way[h]) : NONE;
        }

        int liesAt(int c, int out, int h, int by) {
            int off = cellsOff(out, deepOf(c, h));
            int lies = c;
            for (int k = 0; k < off; k++) {
                int further = stepped(lies, by);
                if (further == NONE) {
                    return lies;
                }
                lies = further;
            }
            return lies;
        }

        static int cellsOff(int out, int deep) {
            if (out <= deep) {
                return 0;
            }
            int square = out * out - deep * deep;
            int root = 0;
            // the root is at most out, as the square is at most that of out
            for (int r = 1; r <= out && r * r <= square; r++) {
                root = r;
            }
            return root / 5;
        }

        private static int stepped(int c, int by) {
            if (!isCell(c) || !within(by, 0, WAYS - 1)) {
                return NONE;
            }
            int y = c / SIDE + STEP_Y[by];
            int x = c % SIDE + STEP_X[by];
            return within(y, 0, SIDE - 1) && within(x, 0, SIDE - 1) ? SIDE * y + x : NONE;
        }
    }

    private static final class Boat {
        final int kind;
        final int area;
        final int heavy;
        final int more;
        int cell;
        int out;

        Boat(int kind, int what, int cell, int out) {
            this.kind = kind;
            this.area = what / 100;
            this.heavy = what / 10 % 10;
            this.more = what % 10;
            this.cell = cell;
            this.out = out;
        }

        boolean isGone() {
            return cell == NONE;
        }

        boolean isA(int other) {
            boolean dug = kind == ROCKED || kind == DOUBLED;
            return other == kind || other == PLAIN || other == DUG && dug;
        }

        int gripOf(int hold) {
            switch (kind) {
                case DUG:
                case ROCKED: return 3 * hold / 2;
                case DOUBLED: return 3 * hold / 2 + 10 * more;
                case FOULED: return hold / 4;
                default: return hold;
            }
        }

        boolean dragsIn(int h) {
            return kind != PLOUGH || h % 2 == 1;
        }

        boolean breaksOutAt(int turn) {
            return kind == ROCKED && turn > more;
        }
    }

    /** A text as codes in the order in which they are worked off on a stack. */
    private static final class Program {
        /** Codes below FIRST_NAME are numbers, those below FIRST_SIGN names, the others the reader's tokens. */
        static final int FIRST_NAME = 10000, FIRST_SIGN = 20000;

        final int[] codes = new int[TAPE];
        final int[] ends = new int[PARTS];
        int length = 0;

        void clear() {
            length = 0;
        }

        void add(int code) {
            if (length < codes.length) {
                codes[length] = code;
                length++;
            }
        }

        void endPart(int part) {
            if (within(part, 0, PARTS - 1)) {
                ends[part] = length;
            }
        }

        int valueOf(int part, int[] names, int[] stack) {
            if (!within(part, 0, PARTS - 1)) {
                return 0;
            }
            int top = 0;
            for (int k = part == 0 ? 0 : ends[part - 1]; k < ends[part] && k < codes.length; k++) {
                int code = codes[k];
                int sign = code - FIRST_SIGN;
                int taken = sign < 0 ? 0 : sign == Reader.NOT || sign == Reader.NEGATE ? 1 : 2;
                if (taken == 0 && top < stack.length) {
                    stack[top] = code < FIRST_NAME ? code : names[Math.min(code - FIRST_NAME, NAMES - 1)];
                    top++;
                } else if (taken > 0 && top >= taken) {
                    stack[top - taken] = outcome(sign, stack[top - taken], stack[top - 1]);
                    top = top - taken + 1;
                }
            }
            return top > 0 ? stack[0] : 0;
        }

        /** Of a sign and its two numbers, or (both the same) its one. */
        private static int outcome(int sign, int a, int b) {
            switch (sign) {
                case Reader.OR: return a != 0 || b != 0 ? 1 : 0;
                case Reader.AND: return a != 0 && b != 0 ? 1 : 0;
                case Reader.NOT: return b == 0 ? 1 : 0;
                case Reader.LESS: return a < b ? 1 : 0;
                case Reader.EQUAL: return a == b ? 1 : 0;
                case Reader.PLUS: return a + b;
                case Reader.MINUS: return a - b;
                case Reader.NEGATE: return -b;
                default: return a * b;
            }
        }
    }

    /** The tape, and what reads it as a text. */
    private static final class Reader {
        static final int END = 0, UNKNOWN = 1, NUMBER = 2, OPEN = 3, CLOSE = 4, STOP = 5;
        static final int PLUS = 6, MINUS = 7, TIMES = 8, LESS = 9, EQUAL = 10, NEGATE = 11;
        /** The words' tokens, in the order of word(). */
        static final int FIRST_WORD = 20, FIRST_KEY = 26, OR = 29, AND = 30, NOT = 31, WORDS = 12;
        /** How close the signs bind, from an expression's ors down to what is one. */
        static final int ORS = 0, ANDS = 1, NOTS = 2, SUMS = 3, TERMS = 4, ONES = 5;

        final int[] tape = new int[TAPE];
        int size = 0;
        private Program program = null;
        private int at = 0;
        private int start = 0;
        private int token = END;
        private int number = 0;

        Reader() {
        }

        void add(int b) {
            if (size < tape.length) {
                tape[size] = b;
                size++;
            }
        }

        void empty() {
            size = 0;
        }

        /** The tape becomes the program: NONE, or the place of the fault (what the program is then is of no use). */
        int read(Program into) {
            program = into;
            program.clear();
            at = 0;
            advance();
            for (int part = 0; part < PARTS; part++) {
                if (token != FIRST_KEY + part) {
                    return start;
                }
                advance();
                if (!readFrom(ORS, 0) || token != STOP) {
                    return start;
                }
                advance();
                program.endPart(part);
            }
            return token == END ? NONE : start;
        }

        // Both below answer false with the token at fault as the current one; open tells how many
        // of (, not and - are open.

        private boolean readFrom(int level, int open) {
            if (level == ONES) {
                return readOne(open);
            }
            if (level == NOTS && token == NOT) {
                if (open >= MOST_OPEN) {
                    return false;
                }
                advance();
                boolean fine = readFrom(NOTS, open + 1);
                emit(NOT);
                return fine;
            }
            boolean fine = readFrom(level + 1, open);
            int most = level == NOTS ? 1 : TAPE;
            for (int k = 0; k < most && fine && joins(token, level); k++) {
                int sign = token;
                advance();
                fine = readFrom(level + 1, open);
                emit(sign);
            }
            return fine;
        }

        private boolean readOne(int open) {
            boolean minus = token == MINUS;
            if (minus || token == OPEN) {
                if (open >= MOST_OPEN) {
                    return false;
                }
                advance();
                if (minus) {
                    boolean fine = readOne(open + 1);
                    emit(NEGATE);
                    return fine;
                }
                if (!readFrom(ORS, open + 1) || token != CLOSE) {
                    return false;
                }
            } else if (token == NUMBER) {
                program.add(number);
            } else if (within(token, FIRST_WORD, FIRST_KEY - 1)) {
                program.add(Program.FIRST_NAME + token - FIRST_WORD);
            } else {
                return false;
            }
            advance();
            return true;
        }

        private static boolean joins(int sign, int level) {
            switch (level) {
                case ORS: return sign == OR;
                case ANDS: return sign == AND;
                case NOTS: return sign == LESS || sign == EQUAL;
                case SUMS: return sign == PLUS || sign == MINUS;
                case TERMS: return sign == TIMES;
                default: return false;
            }
        }

        private void emit(int sign) {
            program.add(Program.FIRST_SIGN + sign);
        }

        private int byteAt(int place) {
            return place >= 0 && place < size && place < tape.length ? tape[place] : NONE;
        }

        private void advance() {
            for (int k = 0; k < TAPE && (byteAt(at) == 32 || byteAt(at) == 10); k++) {
                at++;
            }
            start = at;
            int b = byteAt(at);
            if (b == NONE) {
                token = END;
            } else if (isDigit(b)) {
                readNumber();
            } else if (isLetter(b)) {
                readWord();
            } else {
                token = signOf(b);
                at++;
            }
        }

        private void readNumber() {
            number = 0;
            for (int k = 0; k < TAPE && isDigit(byteAt(at)); k++) {
                number = k < LONGEST_NUMBER ? 10 * number + byteAt(at) - '0' : number;
                at++;
            }
            token = at - start > LONGEST_NUMBER ? UNKNOWN : NUMBER;
        }

        private void readWord() {
            for (int k = 0; k < TAPE && isLetter(byteAt(at)); k++) {
                at++;
            }
            token = UNKNOWN;
            for (int k = 0; k < WORDS; k++) {
                if (stands(word(k))) {
                    token = FIRST_WORD + k;
                }
            }
        }

        /** Whether the word is what stands from start up to here. */
        private boolean stands(String word) {
            if (word.length() != at - start) {
                return false;
            }
            for (int k = 0; k < word.length(); k++) {
                if (word.charAt(k) != byteAt(start + k)) {
                    return false;
                }
            }
            return true;
        }

        private static boolean isDigit(int b) {
            return within(b, '0', '9');
        }

        private static boolean isLetter(int b) {
            return within(b, 'a', 'z');
        }

        private static int signOf(int b) {
            switch (b) {
                case '(': return OPEN;
                case ')': return CLOSE;
                case ';': return STOP;
                case '+': return PLUS;
                case '-': return MINUS;
                case '*': return TIMES;
                case '<': return LESS;
                case '=': return EQUAL;
                default: return UNKNOWN;
            }
        }

        private static String word(int k) {
            switch (k) {
                case WIND: return "wind";
                case AREA: return "area";
                case DEEP: return "deep";
                case OUT: return "out";
                case BED: return "bed";
                case HEAVY: return "heavy";
                case NAMES + PULL: return "pull";
                case NAMES + HOLD: return "hold";
                case NAMES + JERK: return "jerk";
                case 9: return "or";
                case 10: return "and";
                default: return "not";
            }
        }
    }

    /** What a law says of a boat in an hour, with winds of the bay or drawn ones. */
    private static final class Scales {
        final Bay bay;
        final int[] names = new int[NAMES];
        private final int[] stack = new int[TAPE];
        Program law = null;
        int[] winds;

        Scales(Bay bay) {
            this.bay = bay;
            this.winds = bay.strong;
        }

        int says(int part) {
            if (law == null || !within(part, 0, PARTS - 1)) {
                return 0;
            }
            return Math.max(0, Math.min(MOST_SAID[part], law.valueOf(part, names, stack)));
        }

        int pullOn(Boat b, int c, int out, int h) {
            tell(b, c, out, h);
            return says(PULL);
        }

        int jerkOn(Boat b, int c, int out, int h) {
            tell(b, c, out, h);
            return says(JERK);
        }

        int powerOf(Boat b, int c, int out, int h) {
            tell(b, c, out, h);
            return powerTold(b);
        }

        /** Whether the anchor goes one cell on in the hour, of a pull so much less, with power so much added. */
        boolean goesOn(Boat b, int c, int out, int h, int less, int added) {
            if (b.breaksOutAt(bay.turnIn(h))) {
                return true;
            }
            if (!b.dragsIn(h)) {
                return false;
            }
            tell(b, c, out, h);
            return says(PULL) - less > powerTold(b) + added;
        }

        /** The power of a boat of which all has been told. */
        private int powerTold(Boat b) {
            int power = b.gripOf(says(HOLD));
            int enough = 3 * names[DEEP];
            return enough > 0 && names[OUT] < enough ? power * names[OUT] / enough : power;
        }

        private void tell(Boat b, int c, int out, int h) {
            names[WIND] = isHour(h) ? winds[h] : 0;
            names[AREA] = b.area;
            names[DEEP] = bay.deepOf(c, h);
            names[OUT] = out;
            names[BED] = isCell(c) ? bay.bed[c] : 0;
            names[HEAVY] = b.heavy;
        }
    }

    /** How one boat fares in the hours of a night. */
    private static final class Course {
        private final int[] lies = new int[HOURS];
        int cell = NONE;
        int dragged = 0;
        int first = NONE;

        void sail(Scales scales, Boat b, int from, int end) {
            cell = b.cell;
            dragged = 0;
            first = NONE;
            for (int h = Math.max(0, from); h < end && h < HOURS; h++) {
                if (cell != NONE && scales.goesOn(b, cell, b.out, h, 0, 0)) {
                    cell = scales.bay.oneOn(cell, h);
                    dragged++;
                    first = first == NONE ? h : first;
                }
                lies[h] = cell == NONE ? NONE : scales.bay.liesAt(cell, b.out, h, scales.bay.way[h]);
            }
        }

        int liesIn(int h) {
            return isHour(h) ? lies[h] : NONE;
        }

        boolean meetsIn(int h, int other) {
            return other != NONE && liesIn(h) == other;
        }

        int farthest(int home, int from, int end) {
            int most = 0;
            for (int h = from; h < end; h++) {
                most = Math.max(most, apart(home, liesIn(h)));
            }
            return most;
        }

        int firstBeyond(int size, int home, int from, int end) {
            for (int h = from; h < end; h++) {
                if (liesIn(h) == NONE || apart(home, liesIn(h)) > size) {
                    return h;
                }
            }
            return NONE;
        }

        private static int apart(int a, int b) {
            return Math.max(Math.abs(a / SIDE - b / SIDE), Math.abs(a % SIDE - b % SIDE));
        }
    }

    /** How often each form was tried in each bed, and how often it held. */
    private static final class Forms {
        final int[] held = new int[FORMS * BEDS];
        final int[] tried = new int[FORMS * BEDS];

        Forms() {
        }

        int above(int form, int ground) {
            return isFormIn(form, ground) ? held[BEDS * form + ground] + 1 : 1;
        }

        int below(int form, int ground) {
            return isFormIn(form, ground) ? tried[BEDS * form + ground] + 2 : 2;
        }

        boolean isLikelier(int form, int ground, int other, int otherGround) {
            // both products stay below 10002 times 10002
            return above(form, ground) * below(other, otherGround) > above(other, otherGround) * below(form, ground);
        }

        int worstBed(int form) {
            int worst = 0;
            for (int ground = 1; ground < BEDS; ground++) {
                if (isLikelier(form, worst, form, ground)) {
                    worst = ground;
                }
            }
            return worst;
        }

        void takeOver(Forms other) {
            for (int k = 0; k < FORMS * BEDS; k++) {
                held[k] = other.held[k];
                tried[k] = other.tried[k];
            }
        }
    }

    /** A row of numbers, or none. */
    private static final class Sheet {
        final int[] row = new int[LONGEST_SHEET];
        int sort = NO_SORT;
        int size = 0;

        Sheet() {
        }

        boolean isMissing() {
            return sort == NO_SORT;
        }

        void become(int newSort, int newSize) {
            sort = newSort;
            size = Math.max(0, Math.min(LONGEST_SHEET, newSize));
            Arrays.fill(row, 0);
        }

        void put(int i, int v) {
            if (within(i, 0, size - 1)) {
                row[i] = sort == BYTES ? (byte) v : sort == SHORTS ? (short) v : v;
            }
        }

        /** Whether n numbers stand from i on; the sum of both could wrap. */
        boolean hasRun(int i, int n) {
            return i >= 0 && n >= 0 && n <= size && i <= size - n;
        }
    }

    /** What an image keeps; no boats, NONE: there is no image. */
    private static final class Image {
        final int[] cells = new int[BOATS];
        final int[] outs = new int[BOATS];
        final Forms forms = new Forms();
        int boats = NONE;
        int now = 0;
        int law = 0;

        Image() {
        }
    }
}
