import java.util.ArrayDeque;
import java.util.ArrayList;
import java.util.Arrays;
import java.util.Collections;
import java.util.Comparator;
import java.util.HashMap;
import java.util.HashSet;
import java.util.List;
import java.util.Map;
import java.util.NoSuchElementException;
import java.util.PriorityQueue;
import java.util.Set;
import java.util.TreeSet;

/** The document once more, written in another way and without care for cost: sets of cells, whole searches. */
final class Model {
    static final class Camp {
        int row, column, height, width, strength, slip, age;

        Camp(int... of) {
            row = of[0];
            column = of[1];
            height = of[2];
            width = of[3];
            strength = of[4];
            slip = of[5];
            age = of[6];
        }

        Camp twin() {
            return new Camp(row, column, height, width, strength, slip, age);
        }

        boolean on() {
            return strength > 0;
        }
    }

    /** What undo() brings back. */
    static final class State {
        List<Camp> camps = new ArrayList<>();
        int year, lost;

        State twin() {
            State t = new State();
            for (Camp c : camps) {
                t.camps.add(c.twin());
            }
            t.year = year;
            t.lost = lost;
            return t;
        }
    }

    String text = "";
    int rows = 4, columns = 4;
    State now = new State();
    String rule = "";
    List<Long> row = new ArrayList<>();
    ArrayDeque<State> past = new ArrayDeque<>();
    State[] kept = new State[3];
    List<int[]> marks = new ArrayList<>();
    List<int[]> heard = new ArrayList<>();

    // -- helpers

    void tell(long... numbers) {
        row = new ArrayList<>();
        for (long n : numbers) {
            row.add(n);
        }
    }

    int tellWay(List<Integer> way) {
        row = new ArrayList<>();
        for (int cell : way) {
            row.add((long) cell);
        }
        return way.size() - 1;
    }

    String take() {
        String t = text;
        text = "";
        return t;
    }

    int cells() {
        return rows * columns;
    }

    boolean isCell(int cell) {
        return 0 <= cell && cell < cells();
    }

    static boolean in(int v, int low, int high) {
        return low <= v && v <= high;
    }

    boolean isCamp(int camp) {
        return in(camp, 0, now.camps.size() - 1);
    }

    Set<Integer> cellsOf(int r, int c, int h, int w) {
        Set<Integer> set = new TreeSet<>();
        for (int i = r; i < r + h; i++) {
            for (int k = c; k < c + w; k++) {
                set.add(i * columns + k);
            }
        }
        return set;
    }

    Set<Integer> cellsOf(Camp c) {
        return cellsOf(c.row, c.column, c.height, c.width);
    }

    long bitsOf(Camp c) {
        long bits = 0;
        for (int i = 0; i < c.height * c.width; i++) {
            bits |= 1L << (c.row + i / c.width) * columns + c.column + i % c.width;
        }
        return bits;
    }

    boolean inside(int r, int c, int h, int w) {
        return r >= 0 && c >= 0 && r + h <= rows && c + w <= columns;
    }

    boolean cross(Camp a, Camp b) {
        return a != b && a.on() && b.on() && (bitsOf(a) & bitsOf(b)) != 0;
    }

    int crossed(State s, int camp) {
        int bits = 0;
        for (int i = 0; i < s.camps.size(); i++) {
            if (cross(s.camps.get(camp), s.camps.get(i))) {
                bits |= 1 << i;
            }
        }
        return bits;
    }

    int onOver(State s, int cell) {
        int bits = 0;
        for (int i = 0; i < s.camps.size(); i++) {
            Camp c = s.camps.get(i);
            if (c.on() && (bitsOf(c) >> cell & 1) == 1) {
                bits |= 1 << i;
            }
        }
        return bits;
    }

    int onBits(State s) {
        int bits = 0;
        for (int i = 0; i < s.camps.size(); i++) {
            if (s.camps.get(i).on()) {
                bits |= 1 << i;
            }
        }
        return bits;
    }

    int strengthOver(int cell) {
        int sum = 0;
        for (Camp c : now.camps) {
            if ((bitsOf(c) >> cell & 1) == 1) {
                sum += c.strength;
            }
        }
        return sum;
    }

    int strengthOfAll() {
        return now.camps.stream().mapToInt(c -> c.strength).sum();
    }

    // -- the rule: a scan for the first bad sign, and an evaluation of the text itself

    /** -1, or the first place whose sign can't stand there. */
    static int badRule(String t) {
        int limit = Math.min(40, t.length());
        boolean wantsThing = true;
        int digits = 0;
        ArrayDeque<Boolean> compared = new ArrayDeque<>();
        boolean has = false;
        for (int p = 0; p < limit; p++) {
            char s = t.charAt(p);
            boolean digit = s >= '0' && s <= '9';
            if (wantsThing) {
                if (s == '-') {
                    continue;
                }
                if (s == '(') {
                    if (compared.size() == 4) {
                        return p;
                    }
                    compared.push(has);
                    has = false;
                } else if (digit || "saohwcrn".indexOf(s) >= 0) {
                    wantsThing = false;
                    digits = digit ? 1 : 3;
                } else {
                    return p;
                }
            } else if (digit && digits < 3) {
                digits++;
            } else if (s == ')' && !compared.isEmpty()) {
                has = compared.pop();
                digits = 3;
            } else if ("+-*/".indexOf(s) >= 0) {
                wantsThing = true;
            } else if ("<>=".indexOf(s) >= 0 && !has) {
                has = true;
                wantsThing = true;
            } else {
                return p;
            }
        }
        if (t.length() > 40) {
            return 40;
        }
        return wantsThing || !compared.isEmpty() ? limit : -1;
    }

    /** Splits at the loosest operator outside of parentheses. */
    int value(String t, State s, int camp) {
        int at = lastOutside(t, "<>=");
        if (at < 0) {
            at = lastOutside(t, "+-");
        }
        if (at < 0) {
            at = lastOutside(t, "*/");
        }
        if (at >= 0) {
            int a = value(t.substring(0, at), s, camp);
            int b = value(t.substring(at + 1), s, camp);
            switch (t.charAt(at)) {
                case '<': return a < b ? 1 : 0;
                case '>': return a > b ? 1 : 0;
                case '=': return a == b ? 1 : 0;
                case '+': return a + b;
                case '-': return a - b;
                case '*': return a * b;
                default: return b == 0 ? 0 : a / b;
            }
        }
        if (t.charAt(0) == '-') {
            return -value(t.substring(1), s, camp);
        }
        if (t.charAt(0) == '(') {
            return value(t.substring(1, t.length() - 1), s, camp);
        }
        Camp c = s.camps.get(camp);
        switch (t.charAt(0)) {
            case 's': return c.strength;
            case 'a': return c.age;
            case 'o': return Integer.bitCount(crossed(s, camp));
            case 'h': return c.height;
            case 'w': return c.width;
            case 'c': return c.column;
            case 'r': return c.row;
            case 'n': return s.year % 7;
            default: return Integer.parseInt(t);
        }
    }

    static int lastOutside(String t, String operators) {
        int open = 0;
        for (int p = t.length() - 1; p > 0; p--) {
            char s = t.charAt(p);
            open += s == ')' ? 1 : s == '(' ? -1 : 0;
            boolean behindThing = "+-*/<>=(".indexOf(t.charAt(p - 1)) < 0;
            if (open == 0 && operators.indexOf(s) >= 0 && behindThing) {
                return p;
            }
        }
        return -1;
    }

    int loss(String by, State s, int camp) {
        if (!s.camps.get(camp).on()) {
            return 0;
        }
        return Math.max(0, Math.min(9, value(by.isEmpty() ? "1+(o>1)" : by, s, camp)));
    }

    int yearGoesBy(State s, String by) {
        State ahead = s.twin();
        int lost = 0;
        for (int i = 0; i < s.camps.size(); i++) {
            Camp c = s.camps.get(i);
            if (!ahead.camps.get(i).on()) {
                continue;
            }
            c.strength = Math.max(0, c.strength - loss(by, ahead, i));
            if (!c.on()) {
                lost++;
                s.lost = Math.min(999, s.lost + 1);
            }
            c.age = Math.min(99, c.age + 1);
            if (c.slip != 0 && c.age % c.slip == 0) {
                c.column = inside(c.row, c.column + 1, c.height, c.width) ? c.column + 1 : 0;
            }
        }
        s.year++;
        return lost;
    }

    State in(int years, String by) {
        State s = now.twin();
        for (int i = 0; i < years; i++) {
            yearGoesBy(s, by);
        }
        return s;
    }

    // -- the field, camps

    int sign(int v) {
        if (text.length() > 76) {
            return -1;
        }
        text += "" + (char) (v >> 24 & 255) + (char) (v >> 16 & 255) + (char) (v >> 8 & 255) + (char) (v & 255);
        return text.length();
    }

    boolean end(int n) {
        if (!in(n, 0, text.length())) {
            return false;
        }
        text = text.substring(0, n);
        return true;
    }

    int field() {
        String t = take();
        for (int p = 0; p < 2; p++) {
            if (p >= t.length() || "3456".indexOf(t.charAt(p)) < 0) {
                return -1 - p;
            }
        }
        if (t.length() > 2) {
            return -3;
        }
        rows = t.charAt(0) - '0';
        columns = t.charAt(1) - '0';
        now = new State();
        past.clear();
        kept = new State[3];
        marks.clear();
        return cells();
    }

    int camps() {
        String t = take();
        if (t.isEmpty()) {
            return 0;
        }
        List<Camp> news = new ArrayList<>();
        int[] d = new int[7];
        for (int p = 0; p <= t.length(); p++) {
            int k = p % 7;
            if (p == 55 && t.length() > 55) {
                return -1 - 55;
            }
            if (k == 0 && now.camps.size() + news.size() >= 8) {
                return -1 - p;
            }
            if (k == 6) {
                news.add(new Camp(d[0], d[1], d[2], d[3], d[4], d[5], 0));
                if (p == t.length()) {
                    break;
                }
                if (t.charAt(p) != ';') {
                    return -1 - p;
                }
                continue;
            }
            if (p == t.length() || t.charAt(p) < '0' || t.charAt(p) > '9') {
                return -1 - p;
            }
            d[k] = t.charAt(p) - '0';
            boolean can = k == 0 ? d[0] < rows : k == 1 ? d[1] < columns
                    : k == 2 ? in(d[2], 1, 3) && d[0] + d[2] <= rows
                    : k == 3 ? in(d[3], 1, 3) && d[1] + d[3] <= columns : k != 4 || d[4] != 0;
            if (!can) {
                return -1 - p;
            }
        }
        now.camps.addAll(news);
        past.clear();
        kept = new State[3];
        return news.size();
    }

    int rule() {
        String t = take();
        int bad = t.isEmpty() ? -1 : badRule(t);
        if (bad >= 0) {
            return -1 - bad;
        }
        rule = t;
        return 0;
    }

    int camp(int camp, int what) {
        if (!isCamp(camp) || !in(what, 0, 7)) {
            throw new NoSuchElementException();
        }
        Camp c = now.camps.get(camp);
        int[] of = {c.row * columns + c.column, c.height, c.width, c.strength, c.slip, c.age, loss(rule, now, camp),
            crossed(now, camp)};
        return of[what];
    }

    int cell(int cell, int what) {
        if (!isCell(cell) || !in(what, 0, 2)) {
            throw new NoSuchElementException();
        }
        int strongest = -1;
        for (int i = now.camps.size() - 1; i >= 0; i--) {
            boolean over = (onOver(now, cell) >> i & 1) == 1;
            if (over && (strongest < 0 || now.camps.get(i).strength >= now.camps.get(strongest).strength)) {
                strongest = i;
            }
        }
        return new int[] {onOver(now, cell), strengthOver(cell), strongest}[what];
    }

    int sheet(int kind, int n, int f, int step) {
        if (!in(kind, 0, 3) || n > 8) {
            return -1;
        }
        if (kind < 3 && n < 0) {
            return -2;
        }
        int value = f;
        for (int i = 0; i < now.camps.size(); i++) {
            int v = kind == 0 ? (byte) value : kind == 1 ? (short) value : value;
            now.camps.get(i).strength = kind == 3 || i >= n ? 0 : v < 0 ? 0 : v > 9 ? 9 : v;
            value += step;
        }
        return kind == 3 ? -3 : strengthOfAll();
    }

    // -- years, what is done

    void push(State before) {
        past.push(before);
        if (past.size() > 15) {
            past.removeLast();
        }
    }

    int pushed(State before, int answer) {
        if (answer >= 0) {
            push(before);
        }
        return answer;
    }

    int years(int n) {
        if (!in(n, 0, 60)) {
            return -1;
        }
        push(now.twin());
        int lost = 0;
        for (int i = 0; i < n; i++) {
            lost += yearGoesBy(now, rule);
        }
        tell(lost, strengthOfAll());
        return Integer.bitCount(onBits(now));
    }

    int pitch(int cell, int height, int width, int s, int p) {
        return pushed(now.twin(), doPitch(now, cell, height, width, s, p));
    }

    int doPitch(State in, int cell, int height, int width, int s, int p) {
        if (!isCell(cell) || !in(height, 1, 3) || !in(width, 1, 3) || !in(s, 1, 9) || !in(p, 0, 9)) {
            return -1;
        }
        if (!inside(cell / columns, cell % columns, height, width)) {
            return -2;
        }
        if (in.camps.size() == 8) {
            return -3;
        }
        for (int c : cellsOf(cell / columns, cell % columns, height, width)) {
            if (onOver(in, c) != 0) {
                return -4;
            }
        }
        in.camps.add(new Camp(cell / columns, cell % columns, height, width, s, p, 0));
        return in.camps.size() - 1;
    }

    int treads(int camp, int n) {
        return pushed(now.twin(), doTread(camp, n));
    }

    int doTread(int camp, int n) {
        if (!isCamp(camp) || !in(n, 1, 9)) {
            return -1;
        }
        Camp c = now.camps.get(camp);
        if (!c.on()) {
            return -2;
        }
        return c.strength = Math.max(0, c.strength - n);
    }

    int sings(int camp, int n) {
        return pushed(now.twin(), doSing(camp, n));
    }

    int doSing(int camp, int n) {
        if (!isCamp(camp) || !in(n, 1, 9)) {
            return -1;
        }
        Camp c = now.camps.get(camp);
        return c.strength = Math.min(9, c.strength + n);
    }

    int moves(int camp, int way) {
        return pushed(now.twin(), doMove(now, camp, way));
    }

    int doMove(State in, int camp, int way) {
        if (!in(camp, 0, in.camps.size() - 1) || !in(way, 0, 3)) {
            return -1;
        }
        Camp c = in.camps.get(camp);
        int r = c.row + new int[] {-1, 0, 1, 0}[way];
        int k = c.column + new int[] {0, 1, 0, -1}[way];
        if (!inside(r, k, c.height, c.width)) {
            return -2;
        }
        c.row = r;
        c.column = k;
        return r * columns + k;
    }

    int story() {
        String t = take();
        List<String> acts = new ArrayList<>();
        int p = 0;
        while (p < Math.min(60, t.length())) {
            int kind = "nptsm".indexOf(t.charAt(p));
            if (kind < 0) {
                return -1 - p;
            }
            int start = p;
            int size = new int[] {1, 6, 2, 2, 2}[kind];
            for (int k = 1; k <= size; k++) {
                p = start + k;
                if (p >= Math.min(60, t.length())) {
                    return -1 - p;
                }
                boolean notZero = (kind == 2 || kind == 3) && k == 2;
                if (t.charAt(p) < (notZero ? '1' : '0') || t.charAt(p) > '9') {
                    return -1 - p;
                }
            }
            p++;
            acts.add(t.substring(start, p));
        }
        if (t.length() > 60) {
            return -1 - 60;
        }
        State before = now.twin();
        int done = 0;
        for (String act : acts) {
            if (doAct(act) < 0) {
                break;
            }
            done++;
        }
        if (done > 0) {
            push(before);
        }
        tell(done < acts.size() ? 1 : 0, now.year);
        return done;
    }

    int doAct(String act) {
        int[] d = act.substring(1).chars().map(s -> s - '0').toArray();
        switch (act.charAt(0)) {
            case 'n':
                for (int i = 0; i < d[0]; i++) {
                    yearGoesBy(now, rule);
                }
                return 0;
            case 'p':
                return d[0] < rows && d[1] < columns
                        ? doPitch(now, d[0] * columns + d[1], d[2], d[3], d[4], d[5]) : -1;
            case 't':
                return doTread(d[0], d[1]);
            case 's':
                return doSing(d[0], d[1]);
            default:
                return doMove(now, d[0], d[1]);
        }
    }

    int undo() {
        if (past.isEmpty()) {
            return -1;
        }
        now = past.pop();
        return past.size();
    }

    // -- what is on where

    long slept() {
        long bits = 0;
        int most = 0;
        int first = -1;
        for (int cell = cells() - 1; cell >= 0; cell--) {
            int n = Integer.bitCount(onOver(now, cell));
            bits |= n > 0 ? 1L << cell : 0;
            if (n > 0 && n >= most) {
                most = n;
                first = cell;
            }
        }
        tell(Long.bitCount(bits), most, first);
        return bits;
    }

    int crosses() {
        List<int[]> pairs = new ArrayList<>();
        for (int a = 0; a < now.camps.size(); a++) {
            for (int b = a + 1; b < now.camps.size(); b++) {
                if (cross(now.camps.get(a), now.camps.get(b))) {
                    pairs.add(new int[] {a, b});
                }
            }
        }
        int shared = 0;
        for (int cell = 0; cell < cells(); cell++) {
            shared += Integer.bitCount(onOver(now, cell)) >= 2 ? 1 : 0;
        }
        if (pairs.isEmpty()) {
            tell(shared);
        } else {
            tell(shared, pairs.get(0)[0], pairs.get(0)[1]);
        }
        return pairs.size();
    }

    int heap(int camp) {
        if (!isCamp(camp)) {
            return -1;
        }
        if (!now.camps.get(camp).on()) {
            return -2;
        }
        Set<Integer> heap = new HashSet<>();
        ArrayDeque<Integer> todo = new ArrayDeque<>(List.of(camp));
        long cells = 0;
        int bits = 0;
        while (!todo.isEmpty()) {
            int i = todo.pop();
            if (heap.add(i)) {
                bits |= 1 << i;
                for (int cell : cellsOf(now.camps.get(i))) {
                    cells |= 1L << cell;
                }
                for (int k = 0; k < 8; k++) {
                    if ((crossed(now, i) >> k & 1) == 1) {
                        todo.push(k);
                    }
                }
            }
        }
        tell(heap.size(), cells);
        return bits;
    }

    int gone(int camp) {
        if (!isCamp(camp)) {
            return -1;
        }
        State s = now.twin();
        for (int n = 0; n <= 99; n++) {
            Camp c = s.camps.get(camp);
            if (!c.on()) {
                tell(c.row * columns + c.column);
                return n;
            }
            yearGoesBy(s, rule);
        }
        return -2;
    }

    int lies(int camp, int n) {
        if (!isCamp(camp) || !in(n, 0, 99)) {
            return -1;
        }
        State s = in(n, rule);
        Camp c = s.camps.get(camp);
        tell(c.strength, onBits(s));
        return c.row * columns + c.column;
    }

    int clears(int cell) {
        if (!isCell(cell)) {
            return -1;
        }
        State s = now.twin();
        List<Integer> free = new ArrayList<>();
        for (int n = 0; n <= 99; n++) {
            if (onOver(s, cell) == 0) {
                free.add(n);
            }
            yearGoesBy(s, rule);
        }
        if (free.isEmpty()) {
            return -2;
        }
        tell(100 - free.size());
        return free.get(0);
    }

    // -- room for a new one

    List<Integer> rooms(State s, int height, int width) {
        List<Integer> list = new ArrayList<>();
        for (int cell = 0; cell < cells(); cell++) {
            boolean free = inside(cell / columns, cell % columns, height, width);
            if (free) {
                for (int c : cellsOf(cell / columns, cell % columns, height, width)) {
                    free &= onOver(s, c) == 0;
                }
            }
            if (free) {
                list.add(cell);
            }
        }
        return list;
    }

    int room(int height, int width) {
        if (!in(height, 1, 3) || !in(width, 1, 3)) {
            return -1;
        }
        List<Integer> list = rooms(now, height, width);
        if (list.isEmpty()) {
            return -2;
        }
        tell(list.size());
        return list.get(0);
    }

    int when(int height, int width) {
        if (!in(height, 1, 3) || !in(width, 1, 3)) {
            return -1;
        }
        State s = now.twin();
        for (int n = 0; n <= 99; n++) {
            List<Integer> list = rooms(s, height, width);
            if (!list.isEmpty()) {
                tell(list.get(0));
                return n;
            }
            yearGoesBy(s, rule);
        }
        return -2;
    }

    int least(int height, int width) {
        if (!in(height, 1, 3) || !in(width, 1, 3)) {
            return -1;
        }
        int best = -1;
        int under = 0;
        int bits = 0;
        for (int cell = cells() - 1; cell >= 0; cell--) {
            if (!inside(cell / columns, cell % columns, height, width)) {
                continue;
            }
            int sum = 0;
            int over = 0;
            for (int c : cellsOf(cell / columns, cell % columns, height, width)) {
                sum += strengthOver(c);
                over |= onOver(now, c);
            }
            if (best < 0 || sum <= under) {
                best = cell;
                under = sum;
                bits = over;
            }
        }
        tell(under, bits);
        return best;
    }

    int largest() {
        int most = 0;
        int[] of = new int[0];
        for (int height = 1; height <= rows; height++) {
            for (int width = 1; width <= columns; width++) {
                for (int cell : rooms(now, height, width)) {
                    int[] is = {cell, height, width};
                    if (height * width > most || height * width == most && Arrays.compare(is, of) < 0) {
                        most = height * width;
                        of = is;
                    }
                }
            }
        }
        tell(Arrays.stream(of).asLongStream().toArray());
        return most;
    }

    int makes(int height, int width) {
        if (!in(height, 1, 3) || !in(width, 1, 3)) {
            return -1;
        }
        int best = -1;
        for (int away = 0; away < 1 << now.camps.size(); away++) {
            State s = now.twin();
            for (int i = 0; i < s.camps.size(); i++) {
                if ((away >> i & 1) == 1) {
                    s.camps.get(i).strength = 0;
                }
            }
            boolean fewer = best < 0 || Integer.bitCount(away) < Integer.bitCount(best);
            if (fewer && !rooms(s, height, width).isEmpty()) {
                best = away;
            }
        }
        tell(best);
        return Integer.bitCount(best);
    }

    // -- ways

    List<Integer> beside(int cell) {
        List<Integer> list = new ArrayList<>();
        for (int other = 0; other < cells(); other++) {
            int far = Math.abs(other / columns - cell / columns) + Math.abs(other % columns - cell % columns);
            if (far == 1) {
                list.add(other);
            }
        }
        return list;
    }

    /** Steps that are left from each place, by rounds till none changes; then the least step that goes on. */
    int way(int from, int to, int wanted, Set<Integer> open) {
        int far = 1000;
        int[] over = new int[cells()];
        for (int cell = 0; cell < cells(); cell++) {
            over[cell] = onOver(now, cell) & wanted;
        }
        int[][] left = new int[cells()][1 << 8];
        for (int[] of : left) {
            Arrays.fill(of, far);
        }
        left[to][wanted] = 0;
        boolean changes = true;
        while (changes) {
            changes = false;
            for (int cell : open) {
                for (int next : beside(cell)) {
                    for (int met = 0; met <= wanted; met++) {
                        if (open.contains(next)) {
                            int then = left[next][met | over[next]] + 1;
                            if (then < left[cell][met]) {
                                left[cell][met] = then;
                                changes = true;
                            }
                        }
                    }
                }
            }
        }
        int cell = from;
        int met = over[from];
        if (left[cell][met] >= far) {
            return -2;
        }
        List<Integer> way = new ArrayList<>(List.of(cell));
        while (left[cell][met] > 0) {
            for (int next : beside(cell)) {
                int then = met | over[next];
                if (open.contains(next) && left[next][then] == left[cell][met] - 1) {
                    cell = next;
                    met = then;
                    break;
                }
            }
            way.add(cell);
        }
        return tellWay(way);
    }

    int meets(int from, int to, int camps) {
        if (!isCell(from) || !isCell(to) || !in(camps, 0, (1 << now.camps.size()) - 1)) {
            return -1;
        }
        for (int i = 0; i < now.camps.size(); i++) {
            if ((camps >> i & 1) == 1 && !now.camps.get(i).on()) {
                return -2;
            }
        }
        Set<Integer> open = new TreeSet<>();
        for (int cell = 0; cell < cells(); cell++) {
            open.add(cell);
        }
        return way(from, to, camps, open);
    }

    int quiet(int from, int to) {
        if (!isCell(from) || !isCell(to)) {
            return -1;
        }
        Set<Integer> open = new TreeSet<>(List.of(from));
        open.add(to);
        for (int cell = 0; cell < cells(); cell++) {
            if (onOver(now, cell) == 0) {
                open.add(cell);
            }
        }
        return way(from, to, 0, open);
    }

    record Walk(int strength, List<Integer> cells) {
    }

    int soft(int from, int to) {
        if (!isCell(from) || !isCell(to)) {
            return -1;
        }
        Comparator<Walk> order = (a, b) -> {
            if (a.strength != b.strength) {
                return Integer.compare(a.strength, b.strength);
            }
            if (a.cells.size() != b.cells.size()) {
                return Integer.compare(a.cells.size(), b.cells.size());
            }
            for (int i = 0; i < a.cells.size(); i++) {
                if (!a.cells.get(i).equals(b.cells.get(i))) {
                    return Integer.compare(a.cells.get(i), b.cells.get(i));
                }
            }
            return 0;
        };
        PriorityQueue<Walk> queue = new PriorityQueue<>(order);
        queue.add(new Walk(strengthOver(from), List.of(from)));
        Set<Integer> closed = new HashSet<>();
        while (true) {
            Walk walk = queue.remove();
            int last = walk.cells.get(walk.cells.size() - 1);
            if (last == to) {
                tellWay(walk.cells);
                return walk.strength;
            }
            if (closed.add(last)) {
                for (int next : beside(last)) {
                    List<Integer> longer = new ArrayList<>(walk.cells);
                    longer.add(next);
                    queue.add(new Walk(walk.strength + strengthOver(next), longer));
                }
            }
        }
    }

    // -- seats along the wall

    int seenFrom(int r) {
        int bits = 0;
        for (int c = 0; c < columns; c++) {
            for (int i = 0; i < now.camps.size(); i++) {
                boolean sees = (onOver(now, r * columns + c) >> i & 1) == 1;
                for (int k = 0; k < c; k++) {
                    for (Camp other : now.camps) {
                        boolean there = cellsOf(other).contains(r * columns + k);
                        sees &= !there || other.strength <= now.camps.get(i).strength;
                    }
                }
                bits |= sees ? 1 << i : 0;
            }
        }
        return bits;
    }

    int seen(int r) {
        if (!in(r, 0, rows - 1)) {
            return -1;
        }
        tell(Integer.bitCount(seenFrom(r)));
        return seenFrom(r);
    }

    int seats() {
        int all = 0;
        for (int r = 0; r < rows; r++) {
            all |= seenFrom(r);
        }
        int best = -1;
        for (int seats = 0; seats < 1 << rows; seats++) {
            int sees = 0;
            for (int r = 0; r < rows; r++) {
                sees |= (seats >> r & 1) == 1 ? seenFrom(r) : 0;
            }
            if (sees == all && (best < 0 || Integer.bitCount(seats) < Integer.bitCount(best))) {
                best = seats;
            }
        }
        tell(best, onBits(now) & ~all);
        return Integer.bitCount(best);
    }

    // -- laws of thinning

    int marked(int camp, int n, int is) {
        if (!isCamp(camp) || !in(n, 0, 30) || !in(is, 0, 1) || marks.size() == 10) {
            return -1;
        }
        marks.add(new int[] {camp, n, is});
        return marks.size();
    }

    int wiped() {
        int n = marks.size();
        marks.clear();
        return n;
    }

    boolean onBy(int law, int camp, int year) {
        State s = in(year, law / 4 + "+" + law % 4 + "*o");
        return camp < s.camps.size() && s.camps.get(camp).on();
    }

    List<Integer> fitting() {
        List<Integer> list = new ArrayList<>();
        for (int law = 0; law < 16; law++) {
            boolean fits = true;
            for (int[] mark : marks) {
                fits &= onBy(law, mark[0], mark[1]) == (mark[2] == 1);
            }
            if (fits) {
                list.add(law);
            }
        }
        return list;
    }

    int laws() {
        List<Integer> list = fitting();
        if (list.isEmpty()) {
            tell();
        } else {
            tell(list.get(0) / 4, list.get(0) % 4);
        }
        return list.size();
    }

    int watch() {
        List<Integer> list = fitting();
        if (list.isEmpty() || now.camps.isEmpty()) {
            return -2;
        }
        Map<Integer, int[]> on = new HashMap<>();
        for (int law : list) {
            State s = now.twin();
            int[] bits = new int[31];
            for (int year = 0; year <= 30; year++) {
                bits[year] = onBits(s);
                yearGoesBy(s, law / 4 + "+" + law % 4 + "*o");
            }
            on.put(law, bits);
        }
        int best = -1;
        int fewest = 99;
        for (int k = 0; k < 31 * now.camps.size(); k++) {
            int camp = k / 31;
            int year = k % 31;
            int with = (int) list.stream().filter(law -> (on.get(law)[year] >> camp & 1) == 1).count();
            int most = Math.max(with, list.size() - with);
            if (most < fewest) {
                fewest = most;
                best = k;
            }
        }
        tell(fewest);
        return best;
    }

    // -- whose night it is

    int heard(int what, int v) {
        if (!in(what, 0, 4) || !in(v, 0, new int[] {9, 5, 5, 99, 7}[what]) || heard.size() == 12) {
            return -1;
        }
        heard.add(new int[] {what, v});
        return heard.size();
    }

    int forget() {
        int n = heard.size();
        heard.clear();
        return n;
    }

    int fits() {
        int bits = 0;
        for (int i = 0; i < now.camps.size(); i++) {
            Camp c = now.camps.get(i);
            boolean fits = c.on();
            for (int[] h : heard) {
                boolean overRow = cellsOf(c).stream().anyMatch(cell -> cell / columns == h[1]);
                boolean overColumn = cellsOf(c).stream().anyMatch(cell -> cell % columns == h[1]);
                boolean[] is = {c.strength <= h[1], overRow, overColumn, c.age >= h[1],
                    Integer.bitCount(crossed(now, i)) >= h[1]};
                fits &= is[h[0]];
            }
            bits |= fits ? 1 << i : 0;
        }
        tell(Integer.bitCount(bits));
        return bits;
    }

    // -- nights by chance, a game

    int sung(int cell, int k, int p) {
        if (!isCell(cell) || !in(k, 0, 8) || !in(p, 0, 10)) {
            return -1;
        }
        int n = Integer.bitCount(onOver(now, cell));
        long upper = 0;
        long lower = 1;
        for (int i = 0; i < n; i++) {
            lower *= 10;
        }
        for (int who = 0; who < 1 << n; who++) {
            if (Integer.bitCount(who) >= k) {
                long part = 1;
                for (int i = 0; i < n; i++) {
                    part *= (who >> i & 1) == 1 ? p : 10 - p;
                }
                upper += part;
            }
        }
        java.math.BigInteger common = java.math.BigInteger.valueOf(upper).gcd(java.math.BigInteger.valueOf(lower));
        tell(upper / common.longValue(), lower / common.longValue());
        return 0;
    }

    private static final Map<List<Integer>, Boolean> WON = new HashMap<>();

    /** Whether who is on turn wins a fence of parts: by looking at all plays. */
    static boolean wins(List<Integer> parts) {
        Boolean known = WON.get(parts);
        if (known != null) {
            return known;
        }
        boolean won = false;
        for (int i = 0; i < parts.size() && !won; i++) {
            for (int left = 0; left < parts.get(i) && !won; left++) {
                for (int taken = 1; taken <= 3 && left + taken <= parts.get(i) && !won; taken++) {
                    won = !wins(without(parts, i, left, taken));
                }
            }
        }
        WON.put(parts, won);
        return won;
    }

    static List<Integer> without(List<Integer> parts, int i, int left, int taken) {
        List<Integer> rest = new ArrayList<>(parts);
        int part = rest.remove(i);
        rest.add(left);
        rest.add(part - left - taken);
        rest.removeIf(n -> n == 0);
        Collections.sort(rest);
        return rest;
    }

    /** For n up to 18 alone: all plays are looked at. */
    int fence(int n) {
        if (!in(n, 0, 40)) {
            return -1;
        }
        for (int left = 0; left < n; left++) {
            for (int taken = 1; taken <= 3 && left + taken <= n; taken++) {
                if (!wins(without(List.of(n), 0, left, taken))) {
                    tell(left, taken);
                    return 1;
                }
            }
        }
        tell();
        return 0;
    }

    // -- laws, rests, years

    int law() {
        String t = take();
        int bad = t.isEmpty() ? -1 : badRule(t);
        if (bad >= 0) {
            return -10000 - bad;
        }
        int by = Integer.bitCount(onBits(in(9, t)));
        int before = Integer.bitCount(onBits(in(9, rule)));
        long[] told = new long[2 + now.camps.size()];
        told[0] = by;
        told[1] = before;
        for (int i = 0; i < now.camps.size(); i++) {
            told[2 + i] = loss(t, now, i);
        }
        tell(told);
        return by - before;
    }

    static int has(int v, int own, int others) {
        int has = own + others < 5 ? 0 : v;
        for (int cup = 1; cup <= own; cup++) {
            has--;
        }
        for (int cup = 10; cup <= own + others; cup++) {
            has--;
        }
        return has;
    }

    int rests(int v) {
        if (!in(v, 0, 20)) {
            return -1;
        }
        List<int[]> pairs = new ArrayList<>();
        for (int k = 0; k < 100; k++) {
            int x = k / 10;
            int y = k % 10;
            boolean rest = true;
            for (int z = 0; z < 10; z++) {
                rest &= has(v, z, y) <= has(v, x, y) && has(v, z, x) <= has(v, y, x);
            }
            if (rest) {
                pairs.add(new int[] {x, y});
            }
        }
        if (pairs.isEmpty()) {
            tell();
        } else {
            tell(pairs.get(0)[0], pairs.get(0)[1]);
        }
        return pairs.size();
    }

    private int r;

    int draw(int n) {
        r = (int) ((r * 1103515245L + 12345L) & 0xffffffffL);
        return (int) ((r & 0xffffffffL) / 65536 % n);
    }

    int drawn(int seed, int n) {
        if (!in(n, 1, 60)) {
            return -1;
        }
        State s = now.twin();
        r = seed;
        int lost = 0;
        for (int i = 0; i < n; i++) {
            switch (draw(4)) {
                case 2: {
                    int cell = draw(cells());
                    int height = draw(3) + 1;
                    int width = draw(3) + 1;
                    int strength = draw(9) + 1;
                    doPitch(s, cell, height, width, strength, 0);
                    break;
                }
                case 3:
                    if (!s.camps.isEmpty()) {
                        int camp = draw(s.camps.size());
                        int way = draw(4);
                        doMove(s, camp, way);
                    }
                    break;
                default:
                    lost += yearGoesBy(s, rule);
            }
        }
        tell(s.camps.size(), lost);
        return Integer.bitCount(onBits(s));
    }

    // -- kept

    boolean keep(int i) {
        if (!in(i, 0, 2)) {
            return false;
        }
        kept[i] = now.twin();
        return true;
    }

    boolean again(int i) {
        if (!in(i, 0, 2) || kept[i] == null) {
            return false;
        }
        now = kept[i].twin();
        past.clear();
        return true;
    }

    int count(int what) {
        if (!in(what, 0, 11)) {
            return -100;
        }
        int[] of = {rows, columns, now.camps.size(), Integer.bitCount(onBits(now)), now.year, now.lost,
            strengthOfAll(), marks.size(), heard.size(), past.size(), row.size(), text.length()};
        return of[what];
    }

    long row(int i) {
        if (!in(i, 0, row.size() - 1)) {
            throw new NoSuchElementException();
        }
        return row.get(i);
    }
}
