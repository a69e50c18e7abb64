import java.util.Arrays;
import java.util.NoSuchElementException;

/** A field that keeps what camped on it; what each call promises stands in the project's document. */
public final class FieldKeepsCamps {
    public static final int NONE = -1;

    private static final int WITHOUT = -2;
    private static final int MISSING = -3;
    private static final int NO_PLACE_LEFT = -3;
    private static final int SLEPT_IN = -4;
    private static final int BAD_LAW = -10000;
    private static final int NOT_COUNTED = -100;

    private static final int MOST_CAMPS = 8;
    private static final int MOST_CELLS = 36;
    private static final int MOST_SIDE = 3;
    private static final int TEXT_SIGNS = 80;
    private static final int CAMPS_SIGNS = 55;
    private static final int RULE_SIGNS = 40;
    private static final int STORY_SIGNS = 60;
    private static final int LINE_DIGITS = 6;
    private static final int YEARS_AT_ONCE = 60;
    private static final int YEARS_AHEAD = 100;
    private static final int KEPT_PLACES = 3;
    private static final int LAWS = 16;
    private static final int LAW_YEARS = 31;
    private static final int CUPS = 10;
    private static final int STAKES = 40;

    private final Signs text = new Signs();
    private final Told told = new Told();
    private final Camps now = new Camps();
    private final Camps before = new Camps();
    private final Camps later = new Camps();
    private final Past past = new Past();
    private final Camps[] kept = new Camps[KEPT_PLACES];
    private int keptPlaces;
    private final Rule rule = new Rule();
    private final Rule other = new Rule();
    private final RuleReader reader = new RuleReader();
    private final Notes marks = new Notes(10);
    private final Notes night = new Notes(12);
    private final Ways ways = new Ways();
    private final int[] onByLaw = new int[LAWS * LAW_YEARS];
    private final int[] nimbers = new int[STAKES + 1];

    public FieldKeepsCamps() {
        for (int i = 0; i < KEPT_PLACES; i++) {
            kept[i] = new Camps();
        }
        rule.putNone();
        other.putNone();
    }

    // ---- the field, camps

    public int sign(int v) {
        if (text.size + 4 > TEXT_SIGNS) {
            return NONE;
        }
        for (int shift = 24; shift >= 0; shift -= 8) {
            text.add(v >>> shift & 255);
        }
        return text.size;
    }

    public boolean end(int n) {
        if (n < 0 || n > text.size) {
            return false;
        }
        text.size = n;
        return true;
    }

    public int field() {
        int answer = fieldTold();
        text.size = 0;
        return answer;
    }

    private int fieldTold() {
        for (int i = 0; i < 2; i++) {
            int digit = text.digit(i, text.size);
            if (digit < 3 || digit > 6) {
                return -1 - i;
            }
        }
        if (text.size > 2) {
            return -1 - 2;
        }
        now.layOut(text.digit(0, text.size), text.digit(1, text.size));
        forgetStates();
        marks.wipe();
        return now.cells();
    }

    private void forgetStates() {
        past.wipe();
        keptPlaces = 0;
    }

    public int camps() {
        int answer = campsTold();
        text.size = 0;
        return answer;
    }

    private int campsTold() {
        if (text.size == 0) {
            return 0;
        }
        int end = Math.min(text.size, CAMPS_SIGNS);
        int at = 0;
        later.copy(now);
        for (int line = 0; line < MOST_CAMPS && at < end; line++) {
            int bad = later.readLine(text, at, end);
            if (bad != NONE) {
                return -1 - bad;
            }
            at += LINE_DIGITS;
            if (at < end && text.get(at) != ';') {
                return -1 - at;
            }
            at++;
        }
        // behind the last line stands no ; : at has gone one too far, unless a line is due at the very end
        if (at == end) {
            return -1 - end;
        }
        if (text.size > CAMPS_SIGNS) {
            return -1 - CAMPS_SIGNS;
        }
        int lines = later.size - now.size;
        now.copy(later);
        forgetStates();
        return lines;
    }

    public int rule() {
        int bad = reader.read(text, other);
        text.size = 0;
        if (bad != NONE) {
            return -1 - bad;
        }
        rule.copy(other);
        return 0;
    }

    public int camp(int camp, int what) throws NoSuchElementException {
        if (!now.has(camp) || what < 0 || what > 7) {
            throw new NoSuchElementException();
        }
        switch (what) {
            case 0:
                return now.firstCell(camp);
            case 1:
                return now.height[camp];
            case 2:
                return now.width[camp];
            case 3:
                return now.strength[camp];
            case 4:
                return now.slip[camp];
            case 5:
                return now.age[camp];
            case 6:
                return rule.losses(now)[camp];
            default:
                return now.crossedBy(camp);
        }
    }

    public int cell(int cell, int what) throws NoSuchElementException {
        if (!now.hasCell(cell) || what < 0 || what > 2) {
            throw new NoSuchElementException();
        }
        if (what == 0) {
            return now.onOver(cell);
        }
        return what == 1 ? now.strengthOver(cell) : now.strongestOver(cell);
    }

    public int sheet(int kind, int n, int f, int step) {
        if (kind < 0 || kind > 3 || n > MOST_CAMPS) {
            return NONE;
        }
        if (kind == 3) {
            now.weaken(0);
            return MISSING;
        }
        if (n < 0) {
            return WITHOUT;
        }
        for (int i = 0; i < n && i < now.size; i++) {
            now.strength[i] = digitOf(entry(kind, f + i * step));
        }
        now.weaken(n);
        return now.strengthOfAll();
    }

    private static int entry(int kind, int v) {
        if (kind == 0) {
            return (byte) v;
        }
        return kind == 1 ? (short) v : v;
    }

    private static int digitOf(int v) {
        return Math.max(0, Math.min(9, v));
    }

    // ---- years, what is done

    public int years(int n) {
        if (n < 0 || n > YEARS_AT_ONCE) {
            return NONE;
        }
        before.copy(now);
        int gone = now.goByTimes(rule, n);
        past.push(before);
        told.start();
        told.add(gone);
        told.add(now.strengthOfAll());
        return now.onCount();
    }

    public int pitch(int cell, int height, int width, int s, int p) {
        before.copy(now);
        return noted(now.pitchOn(cell, height, width, s, p));
    }

    public int treads(int camp, int n) {
        before.copy(now);
        return noted(now.treadOn(camp, n));
    }

    public int sings(int camp, int n) {
        before.copy(now);
        return noted(now.singTo(camp, n));
    }

    public int moves(int camp, int way) {
        before.copy(now);
        return noted(now.move(camp, way));
    }

    /** Such acts alone can be undone as were done. */
    private int noted(int answer) {
        if (answer >= 0) {
            past.push(before);
        }
        return answer;
    }

    public int story() {
        int bad = badInStory();
        if (bad != NONE) {
            text.size = 0;
            return -1 - bad;
        }
        before.copy(now);
        int done = 0;
        int refused = 0;
        int at = 0;
        for (int i = 0; i < STORY_SIGNS && at < text.size && refused == 0; i++) {
            if (actDone(at) < 0) {
                refused = 1;
            } else {
                done++;
            }
            at += 1 + digitsBehind(text.get(at));
        }
        text.size = 0;
        if (done > 0) {
            past.push(before);
        }
        told.start();
        told.add(refused);
        told.add(now.year);
        return done;
    }

    private int badInStory() {
        int end = Math.min(text.size, STORY_SIGNS);
        int due = 0;
        int act = 0;
        for (int at = 0; at < end; at++) {
            if (due == 0) {
                act = text.get(at);
                due = digitsBehind(act);
                if (due == 0) {
                    return at;
                }
            } else {
                int digit = text.digit(at, end);
                boolean aboveZero = due == 1 && (act == 't' || act == 's');
                if (digit < (aboveZero ? 1 : 0)) {
                    return at;
                }
                due--;
            }
        }
        return due > 0 || text.size > STORY_SIGNS ? end : NONE;
    }

    private static int digitsBehind(int act) {
        switch (act) {
            case 'n':
                return 1;
            case 'p':
                return LINE_DIGITS;
            case 't':
            case 's':
            case 'm':
                return 2;
            default:
                return 0;
        }
    }

    private int actDone(int at) {
        int first = storyDigit(at + 1);
        switch (text.get(at)) {
            case 'n':
                return now.goByTimes(rule, first);
            case 'p':
                return now.pitchOn(now.cellAt(first, storyDigit(at + 2)), storyDigit(at + 3),
                        storyDigit(at + 4), storyDigit(at + 5), storyDigit(at + 6));
            case 't':
                return now.treadOn(first, storyDigit(at + 2));
            case 's':
                return now.singTo(first, storyDigit(at + 2));
            default:
                return now.move(first, storyDigit(at + 2));
        }
    }

    private int storyDigit(int at) {
        return text.digit(at, text.size);
    }

    public int undo() {
        if (past.size == 0) {
            return NONE;
        }
        past.pop(now);
        return past.size;
    }

    // ---- what is on where

    public long slept() {
        int most = 0;
        int first = NONE;
        for (int cell = 0; cell < now.cells(); cell++) {
            int over = Integer.bitCount(now.onOver(cell));
            if (over > most) {
                most = over;
                first = cell;
            }
        }
        long cells = now.sleptCells();
        told.start();
        told.add(Long.bitCount(cells));
        told.add(most);
        told.add(first);
        return cells;
    }

    public int crosses() {
        int shared = 0;
        for (int cell = 0; cell < now.cells(); cell++) {
            if (Integer.bitCount(now.onOver(cell)) > 1) {
                shared++;
            }
        }
        told.start();
        told.add(shared);
        int pairs = 0;
        for (int a = 0; a < now.size; a++) {
            for (int b = a + 1; b < now.size; b++) {
                if (now.cross(a, b)) {
                    if (pairs == 0) {
                        told.add(a);
                        told.add(b);
                    }
                    pairs++;
                }
            }
        }
        return pairs;
    }

    public int heap(int camp) {
        if (!now.has(camp)) {
            return NONE;
        }
        if (!now.isOn(camp)) {
            return WITHOUT;
        }
        int hang = now.hangTogether(camp);
        long cells = 0;
        for (int i = 0; i < now.size; i++) {
            if (isIn(hang, i)) {
                cells |= now.cellsOf(i);
            }
        }
        told.start();
        told.add(Integer.bitCount(hang));
        told.add(cells);
        return hang;
    }

    private static boolean isIn(int bits, int i) {
        return (bits >> i & 1) != 0;
    }

    public int gone(int camp) {
        if (!now.has(camp)) {
            return NONE;
        }
        later.copy(now);
        for (int year = 0; year < YEARS_AHEAD; year++) {
            if (!later.isOn(camp)) {
                told.start();
                told.add(later.firstCell(camp));
                return year;
            }
            later.goBy(rule);
        }
        return WITHOUT;
    }

    public int lies(int camp, int n) {
        if (!now.has(camp) || n < 0 || n >= YEARS_AHEAD) {
            return NONE;
        }
        later.copy(now);
        later.goByTimes(rule, n);
        told.start();
        told.add(later.strength[camp]);
        told.add(later.onBits());
        return later.firstCell(camp);
    }

    public int clears(int cell) {
        if (!now.hasCell(cell)) {
            return NONE;
        }
        int first = WITHOUT;
        int sleptIn = 0;
        later.copy(now);
        for (int year = 0; year < YEARS_AHEAD; year++) {
            if (later.onOver(cell) != 0) {
                sleptIn++;
            } else if (first == WITHOUT) {
                first = year;
            }
            later.goBy(rule);
        }
        if (first != WITHOUT) {
            told.start();
            told.add(sleptIn);
        }
        return first;
    }

    // ---- room for a new one

    public int room(int height, int width) {
        if (!areSides(height, width)) {
            return NONE;
        }
        int first = now.firstRoom(height, width);
        if (first == NONE) {
            return WITHOUT;
        }
        int places = 0;
        for (int cell = first; cell < now.cells(); cell++) {
            if (now.isRoom(cell, height, width)) {
                places++;
            }
        }
        told.start();
        told.add(places);
        return first;
    }

    private static boolean areSides(int height, int width) {
        return height >= 1 && height <= MOST_SIDE && width >= 1 && width <= MOST_SIDE;
    }

    public int when(int height, int width) {
        if (!areSides(height, width)) {
            return NONE;
        }
        later.copy(now);
        for (int year = 0; year < YEARS_AHEAD; year++) {
            int first = later.firstRoom(height, width);
            if (first != NONE) {
                told.start();
                told.add(first);
                return year;
            }
            later.goBy(rule);
        }
        return WITHOUT;
    }

    public int least(int height, int width) {
        if (!areSides(height, width)) {
            return NONE;
        }
        int best = WITHOUT;
        int fewest = Integer.MAX_VALUE;
        for (int cell = 0; cell < now.cells(); cell++) {
            if (now.holds(cell, height, width)) {
                int under = now.strengthUnder(cell, height, width);
                if (under < fewest) {
                    fewest = under;
                    best = cell;
                }
            }
        }
        if (best != WITHOUT) {
            told.start();
            told.add(fewest);
            told.add(now.onUnder(best, height, width));
        }
        return best;
    }

    public int largest() {
        int most = 0;
        told.start();
        for (int cell = 0; cell < now.cells(); cell++) {
            for (int height = 1; height <= now.rows; height++) {
                for (int width = 1; width <= now.columns; width++) {
                    // the rows come in their order, so a later one has to be larger
                    if (height * width > most && now.isRoom(cell, height, width)) {
                        most = height * width;
                        told.start();
                        told.add(cell);
                        told.add(height);
                        told.add(width);
                    }
                }
            }
        }
        return most;
    }

    public int makes(int height, int width) {
        if (!areSides(height, width)) {
            return NONE;
        }
        int fewest = Integer.MAX_VALUE;
        int away = 0;
        for (int cell = 0; cell < now.cells(); cell++) {
            if (now.holds(cell, height, width)) {
                int under = now.onUnder(cell, height, width);
                int size = Integer.bitCount(under);
                if (size < fewest || size == fewest && under < away) {
                    fewest = size;
                    away = under;
                }
            }
        }
        if (fewest > MOST_CAMPS) {
            return WITHOUT;
        }
        told.start();
        told.add(away);
        return fewest;
    }

    // ---- ways

    public int meets(int from, int to, int camps) {
        if (!now.hasCell(from) || !now.hasCell(to) || camps < 0 || camps >= 1 << now.size) {
            return NONE;
        }
        if ((camps & ~now.onBits()) != 0) {
            return WITHOUT;
        }
        return ways.shortest(now, from, to, camps, ~0L, told);
    }

    public int quiet(int from, int to) {
        if (!now.hasCell(from) || !now.hasCell(to)) {
            return NONE;
        }
        long open = ~now.sleptCells() | 1L << from | 1L << to;
        return ways.shortest(now, from, to, 0, open, told);
    }

    public int soft(int from, int to) {
        if (!now.hasCell(from) || !now.hasCell(to)) {
            return NONE;
        }
        return ways.softest(now, from, to, told);
    }

    // ---- seats along the wall

    public int seen(int row) {
        if (row < 0 || row >= now.rows) {
            return NONE;
        }
        int bits = now.seenFrom(row);
        told.start();
        told.add(Integer.bitCount(bits));
        return bits;
    }

    public int seats() {
        int all = now.seenFromRows((1 << now.rows) - 1);
        int best = (1 << now.rows) - 1;
        for (int rows = best - 1; rows >= 0; rows--) {
            if (Integer.bitCount(rows) <= Integer.bitCount(best) && now.seenFromRows(rows) == all) {
                best = rows;
            }
        }
        told.start();
        told.add(best);
        told.add(now.onBits() & ~all);
        return Integer.bitCount(best);
    }

    // ---- laws of thinning (a, b, 0 .. 3 each: LOSS is a, and b times o more; 16 of them)

    public int marked(int camp, int n, int is) {
        if (!now.has(camp) || n < 0 || n >= LAW_YEARS || is < 0 || is > 1 || marks.isFull()) {
            return NONE;
        }
        marks.add(camp, n, is);
        return marks.size;
    }

    public int wiped() {
        return marks.wipe();
    }

    public int laws() {
        int fitting = fittingLaws();
        told.start();
        if (fitting != 0) {
            int least = firstIn(fitting);
            told.add(least / 4);
            told.add(least % 4);
        }
        return Integer.bitCount(fitting);
    }

    public int watch() {
        int fitting = fittingLaws();
        if (fitting == 0 || now.size == 0) {
            return WITHOUT;
        }
        int best = 0;
        int fewest = LAWS + 1;
        for (int camp = 0; camp < now.size; camp++) {
            for (int year = 0; year < LAW_YEARS; year++) {
                int left = lawsLeft(fitting, camp, year);
                if (left < fewest) {
                    fewest = left;
                    best = LAW_YEARS * camp + year;
                }
            }
        }
        told.start();
        told.add(fewest);
        return best;
    }

    private int lawsLeft(int fitting, int camp, int year) {
        int on = 0;
        for (int law = 0; law < LAWS; law++) {
            if (isIn(fitting, law) && isIn(onByLaw[law * LAW_YEARS + year], camp)) {
                on++;
            }
        }
        return Math.max(on, Integer.bitCount(fitting) - on);
    }

    /** Laws (bits) by which all is as it was marked; what is ON by each, from year to year, is left in onByLaw. */
    private int fittingLaws() {
        int fitting = 0;
        for (int law = 0; law < LAWS; law++) {
            other.putLaw(law / 4, law % 4);
            later.copy(now);
            for (int year = 0; year < LAW_YEARS; year++) {
                onByLaw[law * LAW_YEARS + year] = later.onBits();
                later.goBy(other);
            }
            if (isAsMarked(law)) {
                fitting |= 1 << law;
            }
        }
        return fitting;
    }

    private static int firstIn(int bits) {
        for (int i = 0; i < LAWS; i++) {
            if (isIn(bits, i)) {
                return i;
            }
        }
        return NONE;
    }

    private boolean isAsMarked(int law) {
        for (int i = 0; i < marks.size; i++) {
            int on = onByLaw[law * LAW_YEARS + marks.second[i]];
            if (isIn(on, marks.first[i]) != (marks.third[i] == 1)) {
                return false;
            }
        }
        return true;
    }

    // ---- whose night it is

    public int heard(int what, int v) {
        if (v < 0 || v > mostHeard(what) || night.isFull()) {
            return NONE;
        }
        night.add(what, v, 0);
        return night.size;
    }

    private static int mostHeard(int what) {
        switch (what) {
            case 0:
                return 9;
            case 1:
            case 2:
                return 5;
            case 3:
                return 99;
            case 4:
                return 7;
            default:
                return NONE;
        }
    }

    public int forget() {
        return night.wipe();
    }

    public int fits() {
        int bits = 0;
        for (int camp = 0; camp < now.size; camp++) {
            if (now.isOn(camp) && fitsNight(camp)) {
                bits |= 1 << camp;
            }
        }
        told.start();
        told.add(Integer.bitCount(bits));
        return bits;
    }

    private boolean fitsNight(int camp) {
        for (int i = 0; i < night.size; i++) {
            if (!fitsSound(camp, night.first[i], night.second[i])) {
                return false;
            }
        }
        return true;
    }

    private boolean fitsSound(int camp, int what, int v) {
        switch (what) {
            case 0:
                return now.strength[camp] <= v;
            case 1:
                return now.isOverRow(camp, v);
            case 2:
                return now.isOverColumn(camp, v);
            case 3:
                return now.age[camp] >= v;
            default:
                return Integer.bitCount(now.crossedBy(camp)) >= v;
        }
    }

    // ---- nights by chance, a game

    public int sung(int cell, int k, int p) {
        if (!now.hasCell(cell) || k < 0 || k > MOST_CAMPS || p < 0 || p > 10) {
            return NONE;
        }
        int singers = Integer.bitCount(now.onOver(cell));
        long upper = 0;
        for (int sing = k; sing <= singers; sing++) {
            upper += choices(singers, sing) * power(p, sing) * power(10 - p, singers - sing);
        }
        long lower = power(10, singers);
        long common = commonDivisor(upper, lower);
        told.start();
        told.add(common > 0 ? upper / common : upper);
        told.add(common > 0 ? lower / common : lower);
        return 0;
    }

    private static long power(int base, int times) {
        long product = 1;
        for (int i = 0; i < times; i++) {
            product *= base;
        }
        return product;
    }

    private static long choices(int all, int some) {
        long ways = 1;
        for (int i = 1; i <= some; i++) {
            ways = ways * (all - some + i) / i;
        }
        return ways;
    }

    private static long commonDivisor(long a, long b) {
        // a and b stay below 2 to the 27th, so sixty-four steps are more than enough
        for (int step = 0; step < 64 && b != 0; step++) {
            long rest = a % b;
            a = b;
            b = rest;
        }
        return a;
    }

    public int fence(int n) {
        if (n < 0 || n > STAKES) {
            return NONE;
        }
        countNimbers(n);
        told.start();
        for (int left = 0; left < n; left++) {
            for (int taken = 1; taken <= 3 && left + taken <= n; taken++) {
                if ((nimbers[left] ^ nimbers[n - left - taken]) == 0) {
                    told.add(left);
                    told.add(taken);
                    return 1;
                }
            }
        }
        return 0;
    }

    /** Gaps stay gaps: a fence is a sum of its parts, whose nimbers go together by exclusive or. */
    private void countNimbers(int most) {
        for (int n = 0; n <= most; n++) {
            long reached = 0;
            for (int taken = 1; taken <= 3; taken++) {
                for (int left = 0; left + taken <= n; left++) {
                    reached |= 1L << (nimbers[left] ^ nimbers[n - left - taken]);
                }
            }
            nimbers[n] = firstNotIn(reached);
        }
    }

    private static int firstNotIn(long bits) {
        int first = 0;
        while (first < 63 && (bits >> first & 1) != 0) {
            first++;
        }
        return first;
    }

    // ---- laws, rests, years

    public int law() {
        int bad = reader.read(text, other);
        text.size = 0;
        if (bad != NONE) {
            return BAD_LAW - bad;
        }
        int byOther = onInNineYears(other);
        int byRule = onInNineYears(rule);
        told.start();
        told.add(byOther);
        told.add(byRule);
        int[] losses = other.losses(now);
        for (int camp = 0; camp < now.size; camp++) {
            told.add(losses[camp]);
        }
        return byOther - byRule;
    }

    private int onInNineYears(Rule by) {
        later.copy(now);
        later.goByTimes(by, 9);
        return later.onCount();
    }

    public int rests(int v) {
        if (v < 0 || v > 20) {
            return NONE;
        }
        int pairs = 0;
        told.start();
        for (int x = 0; x < CUPS; x++) {
            for (int y = 0; y < CUPS; y++) {
                if (isBestBeside(x, y, v) && isBestBeside(y, x, v)) {
                    if (pairs == 0) {
                        told.add(x);
                        told.add(y);
                    }
                    pairs++;
                }
            }
        }
        return pairs;
    }

    private static boolean isBestBeside(int own, int others, int v) {
        for (int cups = 0; cups < CUPS; cups++) {
            if (gain(cups, others, v) > gain(own, others, v)) {
                return false;
            }
        }
        return true;
    }

    private static int gain(int own, int others, int v) {
        int together = own + others;
        return (together >= 5 ? v : 0) - own - Math.max(0, together - 9);
    }

    public int drawn(int seed, int n) {
        if (n < 1 || n > 60) {
            return NONE;
        }
        Draws draws = new Draws(seed);
        int lost = 0;
        later.copy(now);
        for (int i = 0; i < n; i++) {
            int tells = draws.of(4);
            if (tells < 2) {
                lost += later.goBy(rule);
            } else if (tells == 2) {
                pitchDrawn(draws);
            } else if (later.size > 0) {
                int camp = draws.of(later.size);
                later.move(camp, draws.of(4));
            }
        }
        told.start();
        told.add(later.size);
        told.add(lost);
        return later.onCount();
    }

    private void pitchDrawn(Draws draws) {
        int cell = draws.of(later.cells());
        int height = 1 + draws.of(3);
        int width = 1 + draws.of(3);
        later.pitchOn(cell, height, width, 1 + draws.of(9), 0);
    }

    // ---- kept

    public boolean keep(int i) {
        if (i < 0 || i >= KEPT_PLACES) {
            return false;
        }
        kept[i].copy(now);
        keptPlaces |= 1 << i;
        return true;
    }

    public boolean again(int i) {
        if (i < 0 || i >= KEPT_PLACES || !isIn(keptPlaces, i)) {
            return false;
        }
        now.copy(kept[i]);
        past.wipe();
        return true;
    }

    public int count(int what) {
        switch (what) {
            case 0:
                return now.rows;
            case 1:
                return now.columns;
            case 2:
                return now.size;
            case 3:
                return now.onCount();
            case 4:
                return now.year;
            case 5:
                return now.lost;
            case 6:
                return now.strengthOfAll();
            case 7:
                return marks.size;
            case 8:
                return night.size;
            case 9:
                return past.size;
            case 10:
                return told.size;
            case 11:
                return text.size;
            default:
                return NOT_COUNTED;
        }
    }

    public long row(int i) throws NoSuchElementException {
        if (i < 0 || i >= told.size) {
            throw new NoSuchElementException();
        }
        return told.numbers[i];
    }

    /** THE TEXT. */
    private static final class Signs {
        final int[] signs = new int[TEXT_SIGNS];
        int size;

        void add(int sign) {
            if (size >= 0 && size < signs.length) {
                signs[size] = sign;
                size++;
            }
        }

        int get(int at) {
            return at >= 0 && at < size ? signs[at] : NONE;
        }

        /** The digit at a place ahead of an end; NONE if none is there. */
        int digit(int at, int end) {
            int sign = at < end ? get(at) : NONE;
            return sign >= '0' && sign <= '9' ? sign - '0' : NONE;
        }
    }

    /** The ROW. The longest one is a way by eight camps: nine parts of ten steps at most. */
    private static final class Told {
        final long[] numbers = new long[128];
        int size;

        void start() {
            size = 0;
        }

        void add(long number) {
            if (size < numbers.length) {
                numbers[size] = number;
                size++;
            }
        }

        void turnRound() {
            for (int i = 0; i < size / 2; i++) {
                long number = numbers[i];
                numbers[i] = numbers[size - 1 - i];
                numbers[size - 1 - i] = number;
            }
        }
    }

    /** Numbers of three that were noted, one behind another, up to a most. */
    private static final class Notes {
        final int[] first;
        final int[] second;
        final int[] third;
        int size;

        Notes(int most) {
            first = new int[most];
            second = new int[most];
            third = new int[most];
        }

        boolean isFull() {
            return size >= first.length;
        }

        void add(int one, int two, int three) {
            if (!isFull()) {
                first[size] = one;
                second[size] = two;
                third[size] = three;
                size++;
            }
        }

        int wipe() {
            int were = size;
            size = 0;
            return were;
        }
    }

    /** THE FIELD with its CAMPS, YEAR and LOST: all that undo() brings back. */
    private static final class Camps {
        int rows = 4;
        int columns = 4;
        int size;
        int year;
        int lost;
        final int[] top = new int[MOST_CAMPS];
        final int[] left = new int[MOST_CAMPS];
        final int[] height = new int[MOST_CAMPS];
        final int[] width = new int[MOST_CAMPS];
        final int[] strength = new int[MOST_CAMPS];
        final int[] slip = new int[MOST_CAMPS];
        final int[] age = new int[MOST_CAMPS];

        void copy(Camps from) {
            rows = from.rows;
            columns = from.columns;
            size = from.size;
            year = from.year;
            lost = from.lost;
            System.arraycopy(from.top, 0, top, 0, MOST_CAMPS);
            System.arraycopy(from.left, 0, left, 0, MOST_CAMPS);
            System.arraycopy(from.height, 0, height, 0, MOST_CAMPS);
            System.arraycopy(from.width, 0, width, 0, MOST_CAMPS);
            System.arraycopy(from.strength, 0, strength, 0, MOST_CAMPS);
            System.arraycopy(from.slip, 0, slip, 0, MOST_CAMPS);
            System.arraycopy(from.age, 0, age, 0, MOST_CAMPS);
        }

        void layOut(int newRows, int newColumns) {
            rows = newRows;
            columns = newColumns;
            size = 0;
            year = 0;
            lost = 0;
        }

        // -- cells

        int cells() {
            return rows * columns;
        }

        boolean hasCell(int cell) {
            return cell >= 0 && cell < cells();
        }

        int cellAt(int atRow, int atColumn) {
            boolean isThere = atRow >= 0 && atRow < rows && atColumn >= 0 && atColumn < columns;
            return isThere ? atRow * columns + atColumn : NONE;
        }

        int rowOf(int cell) {
            return columns > 0 ? cell / columns : 0;
        }

        int columnOf(int cell) {
            return columns > 0 ? cell % columns : 0;
        }

        /** The cell beside one, by sides in the order of their numbers: up, left, right, down; NONE without. */
        int beside(int cell, int side) {
            int atRow = rowOf(cell);
            int atColumn = columnOf(cell);
            switch (side) {
                case 0:
                    return cellAt(atRow - 1, atColumn);
                case 1:
                    return cellAt(atRow, atColumn - 1);
                case 2:
                    return cellAt(atRow, atColumn + 1);
                default:
                    return cellAt(atRow + 1, atColumn);
            }
        }

        // -- camps one by one

        boolean has(int camp) {
            return camp >= 0 && camp < size;
        }

        boolean isOn(int camp) {
            return has(camp) && strength[camp] > 0;
        }

        int firstCell(int camp) {
            return has(camp) ? cellAt(top[camp], left[camp]) : NONE;
        }

        boolean isOverRow(int camp, int atRow) {
            return has(camp) && top[camp] <= atRow && atRow < top[camp] + height[camp];
        }

        boolean isOverColumn(int camp, int atColumn) {
            return has(camp) && left[camp] <= atColumn && atColumn < left[camp] + width[camp];
        }

        long cellsOf(int camp) {
            long bits = 0;
            for (int cell = 0; cell < cells(); cell++) {
                if (isOverRow(camp, rowOf(cell)) && isOverColumn(camp, columnOf(cell))) {
                    bits |= 1L << cell;
                }
            }
            return bits;
        }

        /** Of two camps that are there. */
        boolean cross(int a, int b) {
            return strength[a] > 0 && strength[b] > 0
                    && top[a] < top[b] + height[b] && top[b] < top[a] + height[a]
                    && left[a] < left[b] + width[b] && left[b] < left[a] + width[a];
        }

        int crossedBy(int camp) {
            if (!has(camp)) {
                return 0;
            }
            int bits = 0;
            for (int i = 0; i < size; i++) {
                if (i != camp && cross(camp, i)) {
                    bits |= 1 << i;
                }
            }
            return bits;
        }

        int hangTogether(int camp) {
            int hang = 1 << camp;
            // each round reaches one camp more, or none is left to be reached
            for (int round = 0; round < size; round++) {
                for (int i = 0; i < size; i++) {
                    if (isIn(hang, i)) {
                        hang |= crossedBy(i);
                    }
                }
            }
            return hang;
        }

        // -- camps together

        int onBits() {
            int bits = 0;
            for (int i = 0; i < size; i++) {
                if (strength[i] > 0) {
                    bits |= 1 << i;
                }
            }
            return bits;
        }

        int onCount() {
            return Integer.bitCount(onBits());
        }

        int strengthOfAll() {
            int sum = 0;
            for (int i = 0; i < size; i++) {
                sum += strength[i];
            }
            return sum;
        }

        int onOver(int cell) {
            return onUnder(cell, 1, 1);
        }

        int strengthOver(int cell) {
            return strengthUnder(cell, 1, 1);
        }

        int strongestOver(int cell) {
            int over = onOver(cell);
            int best = NONE;
            for (int i = 0; i < size; i++) {
                if (isIn(over, i) && (best == NONE || strength[i] > strength[best])) {
                    best = i;
                }
            }
            return best;
        }

        long sleptCells() {
            long bits = 0;
            for (int cell = 0; cell < cells(); cell++) {
                if (onOver(cell) != 0) {
                    bits |= 1L << cell;
                }
            }
            return bits;
        }

        /** Camps seen from the wall at a row. Of a camp the first cell in that row has the fewest to its left. */
        int seenFrom(int atRow) {
            int bits = 0;
            for (int i = 0; i < size; i++) {
                if (isOn(i) && isOverRow(i, atRow) && !isHidden(i, atRow)) {
                    bits |= 1 << i;
                }
            }
            return bits;
        }

        boolean isHidden(int camp, int atRow) {
            for (int i = 0; i < size; i++) {
                if (isOverRow(i, atRow) && left[i] < left[camp] && strength[i] > strength[camp]) {
                    return true;
                }
            }
            return false;
        }

        int seenFromRows(int bits) {
            int all = 0;
            for (int i = 0; i < rows; i++) {
                if (isIn(bits, i)) {
                    all |= seenFrom(i);
                }
            }
            return all;
        }

        // -- blocks of cells

        boolean holds(int cell, int high, int wide) {
            return hasCell(cell) && rowOf(cell) + high <= rows && columnOf(cell) + wide <= columns;
        }

        /** Rows, or columns, that a camp and a block have in common. */
        int common(int from, int many, int blockFrom, int blockMany) {
            return Math.max(0, Math.min(from + many, blockFrom + blockMany) - Math.max(from, blockFrom));
        }

        int commonCells(int camp, int cell, int high, int wide) {
            return common(top[camp], height[camp], rowOf(cell), high)
                    * common(left[camp], width[camp], columnOf(cell), wide);
        }

        int onUnder(int cell, int high, int wide) {
            int bits = 0;
            for (int i = 0; i < size; i++) {
                if (strength[i] > 0 && commonCells(i, cell, high, wide) > 0) {
                    bits |= 1 << i;
                }
            }
            return bits;
        }

        int strengthUnder(int cell, int high, int wide) {
            int sum = 0;
            for (int i = 0; i < size; i++) {
                sum += strength[i] * commonCells(i, cell, high, wide);
            }
            return sum;
        }

        boolean isRoom(int cell, int high, int wide) {
            return holds(cell, high, wide) && onUnder(cell, high, wide) == 0;
        }

        int firstRoom(int high, int wide) {
            for (int cell = 0; cell < cells(); cell++) {
                if (isRoom(cell, high, wide)) {
                    return cell;
                }
            }
            return NONE;
        }

        // -- years and acts

        /** A YEAR goes by: how many are lost by it. */
        int goBy(Rule rule) {
            int[] losses = rule.losses(this);
            int gone = 0;
            for (int i = 0; i < size; i++) {
                if (strength[i] > 0) {
                    strength[i] = Math.max(0, strength[i] - losses[i]);
                    if (strength[i] == 0) {
                        gone++;
                    }
                    age[i] = Math.min(99, age[i] + 1);
                    slide(i);
                }
            }
            lost = Math.min(999, lost + gone);
            year++;
            return gone;
        }

        void slide(int camp) {
            if (slip[camp] > 0 && age[camp] % slip[camp] == 0) {
                boolean stays = left[camp] + 1 + width[camp] <= columns;
                left[camp] = stays ? left[camp] + 1 : 0;
            }
        }

        int goByTimes(Rule rule, int times) {
            int gone = 0;
            for (int i = 0; i < times; i++) {
                gone += goBy(rule);
            }
            return gone;
        }

        int pitchOn(int cell, int high, int wide, int strong, int slips) {
            if (!hasCell(cell) || !areSides(high, wide) || strong < 1 || strong > 9 || slips < 0 || slips > 9) {
                return NONE;
            }
            if (!holds(cell, high, wide)) {
                return WITHOUT;
            }
            if (size >= MOST_CAMPS) {
                return NO_PLACE_LEFT;
            }
            if (onUnder(cell, high, wide) != 0) {
                return SLEPT_IN;
            }
            top[size] = rowOf(cell);
            left[size] = columnOf(cell);
            height[size] = high;
            width[size] = wide;
            strength[size] = strong;
            slip[size] = slips;
            age[size] = 0;
            size++;
            return size - 1;
        }

        int treadOn(int camp, int n) {
            if (!has(camp) || n < 1 || n > 9) {
                return NONE;
            }
            if (!isOn(camp)) {
                return WITHOUT;
            }
            strength[camp] = Math.max(0, strength[camp] - n);
            return strength[camp];
        }

        int singTo(int camp, int n) {
            if (!has(camp) || n < 1 || n > 9) {
                return NONE;
            }
            strength[camp] = Math.min(9, strength[camp] + n);
            return strength[camp];
        }

        int move(int camp, int way) {
            if (!has(camp) || way < 0 || way > 3) {
                return NONE;
            }
            int toRow = top[camp] + (way == 2 ? 1 : way == 0 ? -1 : 0);
            int toColumn = left[camp] + (way == 1 ? 1 : way == 3 ? -1 : 0);
            if (!holds(cellAt(toRow, toColumn), height[camp], width[camp])) {
                return WITHOUT;
            }
            top[camp] = toRow;
            left[camp] = toColumn;
            return firstCell(camp);
        }

        /** From a camp on, none has strength any more. */
        void weaken(int from) {
            for (int i = Math.max(0, from); i < size; i++) {
                strength[i] = 0;
            }
        }

        // -- lines

        /** One camp more by a line that begins at a place: NONE, or the place of a sign that can't stand there. */
        int readLine(Signs text, int at, int end) {
            if (size >= MOST_CAMPS) {
                return at;
            }
            for (int i = 0; i < LINE_DIGITS; i++) {
                int digit = text.digit(at + i, end);
                if (digit == NONE || !takeDigit(i, digit)) {
                    return at + i;
                }
            }
            age[size] = 0;
            size++;
            return NONE;
        }

        /** Sets what digit i of a line says of the camp behind the last one, if it can be. */
        boolean takeDigit(int i, int digit) {
            if (size >= MOST_CAMPS) {
                return false;
            }
            switch (i) {
                case 0:
                    top[size] = digit;
                    return digit < rows;
                case 1:
                    left[size] = digit;
                    return digit < columns;
                case 2:
                    height[size] = digit;
                    return digit >= 1 && digit <= MOST_SIDE && top[size] + digit <= rows;
                case 3:
                    width[size] = digit;
                    return digit >= 1 && digit <= MOST_SIDE && left[size] + digit <= columns;
                case 4:
                    strength[size] = digit;
                    return digit >= 1;
                default:
                    slip[size] = digit;
                    return true;
            }
        }
    }

    /** States that undo() can bring back, the latest fifteen: a ring. */
    private static final class Past {
        static final int MOST = 15;
        final Camps[] states = new Camps[MOST];
        int first;
        int size;

        Past() {
            for (int i = 0; i < MOST; i++) {
                states[i] = new Camps();
            }
        }

        void wipe() {
            first = 0;
            size = 0;
        }

        void push(Camps state) {
            if (size == MOST) {
                first = (first + 1) % MOST;
                size--;
            }
            states[(first + size) % MOST].copy(state);
            size++;
        }

        void pop(Camps into) {
            if (size > 0) {
                size--;
                into.copy(states[(first + size) % MOST]);
            }
        }
    }

    /** A rule, as steps for a stack: numbers from 0 on; letters and operators as their signs, below 0. */
    private static final class Rule {
        static final int NEGATE = '~';
        final int[] steps = new int[RULE_SIGNS];
        final int[] stack = new int[RULE_SIGNS];
        final int[] losses = new int[MOST_CAMPS];
        int size;
        private int high;
        private int others;

        void start() {
            size = 0;
        }

        void addNumber(int number) {
            if (size < steps.length) {
                steps[size] = number;
                size++;
            }
        }

        void addSign(int sign) {
            addNumber(-sign);
        }

        void copy(Rule from) {
            size = from.size;
            System.arraycopy(from.steps, 0, steps, 0, RULE_SIGNS);
        }

        /** Without a rule: 1+(o>1). */
        void putNone() {
            start();
            addNumber(1);
            addSign('o');
            addNumber(1);
            addSign('>');
            addSign('+');
        }

        /** a+b*o */
        void putLaw(int a, int b) {
            start();
            addNumber(a);
            addNumber(b);
            addSign('o');
            addSign('*');
            addSign('+');
        }

        /** LOSS of all camps now; 0 of such as are not ON, or not there. */
        int[] losses(Camps camps) {
            for (int i = 0; i < MOST_CAMPS; i++) {
                losses[i] = 0;
                if (camps.isOn(i)) {
                    others = Integer.bitCount(camps.crossedBy(i));
                    losses[i] = loss(camps, i);
                }
            }
            return losses;
        }

        private int loss(Camps camps, int camp) {
            high = 0;
            for (int i = 0; i < size; i++) {
                int step = steps[i];
                if (step >= 0) {
                    push(step);
                } else if (step == -NEGATE) {
                    push(-pop());
                } else if (isOperator(-step)) {
                    int right = pop();
                    int left = pop();
                    push(joined(-step, left, right));
                } else {
                    push(meaning(-step, camps, camp));
                }
            }
            return digitOf(pop());
        }

        /** What a letter means of a camp; others is how many it crosses. */
        private int meaning(int letter, Camps camps, int camp) {
            switch (letter) {
                case 's':
                    return camps.strength[camp];
                case 'a':
                    return camps.age[camp];
                case 'o':
                    return others;
                case 'h':
                    return camps.height[camp];
                case 'w':
                    return camps.width[camp];
                case 'c':
                    return camps.left[camp];
                case 'r':
                    return camps.top[camp];
                default:
                    return camps.year % 7;
            }
        }

        private void push(int value) {
            if (high < stack.length) {
                stack[high] = value;
                high++;
            }
        }

        private int pop() {
            if (high <= 0) {
                return 0;
            }
            high--;
            return stack[high];
        }

        static boolean isOperator(int sign) {
            switch (sign) {
                case '+':
                case '-':
                case '*':
                case '/':
                case '<':
                case '>':
                case '=':
                    return true;
                default:
                    return false;
            }
        }

        static boolean isComparison(int sign) {
            return sign == '<' || sign == '>' || sign == '=';
        }

        static int joined(int operator, int left, int right) {
            switch (operator) {
                case '+':
                    return left + right;
                case '-':
                    return left - right;
                case '*':
                    return left * right;
                case '/':
                    return right == 0 ? 0 : left / right;
                case '<':
                    return left < right ? 1 : 0;
                case '>':
                    return left > right ? 1 : 0;
                default:
                    return left == right ? 1 : 0;
            }
        }
    }

    /** Reads a rule from its text. Its methods answer whether what they read can stand where it stands. */
    private static final class RuleReader {
        static final int MOST_OPEN = 4;
        private Signs text;
        private Rule rule;
        private int at;
        private int end;

        /** NONE, or the place of the first sign that can't stand there. */
        int read(Signs from, Rule into) {
            text = from;
            rule = into;
            at = 0;
            end = Math.min(from.size, RULE_SIGNS);
            if (from.size == 0) {
                into.putNone();
                return NONE;
            }
            into.start();
            boolean isRead = expression(0) && at == end && from.size <= RULE_SIGNS;
            return isRead ? NONE : at;
        }

        private int next() {
            return at < end && text != null ? text.get(at) : NONE;
        }

        private void write(int sign) {
            if (rule != null) {
                rule.addSign(sign);
            }
        }

        private boolean expression(int open) {
            if (!sum(open)) {
                return false;
            }
            int sign = next();
            if (!Rule.isComparison(sign)) {
                return true;
            }
            at++;
            if (!sum(open)) {
                return false;
            }
            write(sign);
            return true;
        }

        private boolean sum(int open) {
            if (!product(open)) {
                return false;
            }
            for (int i = 0; i < RULE_SIGNS && (next() == '+' || next() == '-'); i++) {
                int sign = next();
                at++;
                if (!product(open)) {
                    return false;
                }
                write(sign);
            }
            return true;
        }

        private boolean product(int open) {
            if (!signedThing(open)) {
                return false;
            }
            for (int i = 0; i < RULE_SIGNS && (next() == '*' || next() == '/'); i++) {
                int sign = next();
                at++;
                if (!signedThing(open)) {
                    return false;
                }
                write(sign);
            }
            return true;
        }

        private boolean signedThing(int open) {
            boolean isNegative = false;
            for (int i = 0; i < RULE_SIGNS && next() == '-'; i++) {
                isNegative = !isNegative;
                at++;
            }
            if (!thing(open)) {
                return false;
            }
            if (isNegative) {
                write(Rule.NEGATE);
            }
            return true;
        }

        private boolean thing(int open) {
            int sign = next();
            if (sign >= '0' && sign <= '9') {
                number();
                return true;
            }
            if (isLetter(sign)) {
                at++;
                write(sign);
                return true;
            }
            if (sign != '(' || open >= MOST_OPEN) {
                return false;
            }
            at++;
            if (!expression(open + 1) || next() != ')') {
                return false;
            }
            at++;
            return true;
        }

        private void number() {
            int value = 0;
            for (int i = 0; i < 3 && next() >= '0' && next() <= '9'; i++) {
                value = value * 10 + next() - '0';
                at++;
            }
            if (rule != null) {
                rule.addNumber(value);
            }
        }

        private static boolean isLetter(int sign) {
            switch (sign) {
                case 's':
                case 'a':
                case 'o':
                case 'h':
                case 'w':
                case 'c':
                case 'r':
                case 'n':
                    return true;
                default:
                    return false;
            }
        }
    }

    /** Ways through the field. */
    private static final class Ways {
        static final int SIDES = 4;
        static final int MEETINGS = 1 << MOST_CAMPS;
        static final int PLACES = 1 << 14;
        static final int CELL_COST = 64;
        static final int FAR = 1 << 28;
        final int[] queue = new int[MOST_CELLS * MEETINGS];
        final long[] reached = new long[MEETINGS];
        final int[] over = new int[MOST_CELLS];
        final int[] cost = new int[MOST_CELLS];
        final int[] best = new int[MOST_CELLS];

        /**
         * The fewest steps by open cells on which all wanted camps are met; WITHOUT, if there are none. A place is a
         * cell and the camps that were met till then; as the cells beside one are looked at in their order, the queue
         * holds places by their least rows, and the first way to a place is the least one of the shortest.
         */
        int shortest(Camps camps, int from, int to, int wanted, long open, Told told) {
            Arrays.fill(reached, 0L);
            for (int cell = 0; cell < camps.cells() && cell < MOST_CELLS; cell++) {
                over[cell] = camps.onOver(cell) & wanted;
            }
            int filled = reach(from, 0, 0, 0);
            for (int i = 0; i < filled && i < queue.length; i++) {
                int place = queue[i] % PLACES;
                int cell = place / MEETINGS;
                int met = place % MEETINGS;
                if (cell == to && met == wanted) {
                    return tellWay(i, told);
                }
                for (int side = 0; side < SIDES; side++) {
                    int next = camps.beside(cell, side);
                    if (next != NONE && (open >> next & 1) != 0) {
                        filled = reach(next, met, i, filled);
                    }
                }
            }
            return WITHOUT;
        }

        /** Puts a cell that one comes to behind the queue, if it was not reached so: how long the queue is then. */
        private int reach(int cell, int metBefore, int by, int filled) {
            if (cell < 0 || cell >= MOST_CELLS || filled >= queue.length) {
                return filled;
            }
            int met = (metBefore | over[cell]) % MEETINGS;
            if ((reached[met] >> cell & 1) != 0) {
                return filled;
            }
            reached[met] |= 1L << cell;
            queue[filled] = by * PLACES + cell * MEETINGS + met;
            return filled + 1;
        }

        private int tellWay(int last, Told told) {
            told.start();
            int i = last;
            for (int step = 0; step < queue.length && i > 0 && i < queue.length; step++) {
                told.add(queue[i] % PLACES / MEETINGS);
                i = queue[i] / PLACES;
            }
            told.add(queue[0] % PLACES / MEETINGS);
            told.turnRound();
            return told.size - 1;
        }

        /** The least strength on a way. Costs hold strength first, then how many cells there are to the end. */
        int softest(Camps camps, int from, int to, Told told) {
            if (from < 0 || from >= MOST_CELLS || to < 0 || to >= MOST_CELLS) {
                return NONE;
            }
            int cells = Math.min(camps.cells(), MOST_CELLS);
            for (int cell = 0; cell < cells; cell++) {
                cost[cell] = camps.strengthOver(cell) * CELL_COST + 1;
                best[cell] = FAR;
            }
            best[to] = cost[to];
            boolean changes = true;
            for (int round = 0; round < cells && changes; round++) {
                changes = improve(camps, cells);
            }
            told.start();
            told.add(from);
            int cell = from;
            for (int step = 0; step < cells && cell != to; step++) {
                cell = softStep(camps, cell);
                told.add(cell);
            }
            return best[from] / CELL_COST;
        }

        private boolean improve(Camps camps, int cells) {
            boolean changes = false;
            for (int cell = 0; cell < cells; cell++) {
                for (int side = 0; side < SIDES; side++) {
                    int next = camps.beside(cell, side);
                    if (next >= 0 && next < MOST_CELLS && cost[cell] + best[next] < best[cell]) {
                        best[cell] = cost[cell] + best[next];
                        changes = true;
                    }
                }
            }
            return changes;
        }

        private int softStep(Camps camps, int cell) {
            for (int side = 0; side < SIDES; side++) {
                int next = camps.beside(cell, side);
                if (next >= 0 && next < MOST_CELLS && best[cell] == cost[cell] + best[next]) {
                    return next;
                }
            }
            return cell;
        }
    }

    /** Draws by a seed. */
    private static final class Draws {
        private int last;

        Draws(int seed) {
            last = seed;
        }

        int of(int n) {
            last = last * 1103515245 + 12345;
            return n > 0 ? (last >>> 16) % n : 0;
        }
    }
}
