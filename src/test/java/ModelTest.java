import java.util.NoSuchElementException;
import java.util.Random;

/** Long runs of calls by chance (from fixed seeds) on the class and on the model: each answer, the whole state. */
final class ModelTest {
    private static final Due DUE = new Due("model");
    private static final int RUNS = 400;
    private static final int CALLS = 220;

    private final Random random;
    private final int run;
    private final FieldKeepsCamps x = new FieldKeepsCamps();
    private final Model y = new Model();

    private ModelTest(int run) {
        this.run = run;
        random = new Random(run * 7919L + 5);
    }

    public static void main(String[] args) {
        int runs = args.length > 2 ? Integer.parseInt(args[2]) : RUNS;
        for (int run = 0; run < runs; run++) {
            new ModelTest(run).go();
        }
        DUE.finish();
    }

    private void go() {
        if (random.nextInt(4) > 0) {
            tell("" + (char) ('3' + random.nextInt(4)) + (char) ('3' + random.nextInt(4)));
            is("field()", x.field(), y.field());
        }
        for (int i = 0; i < random.nextInt(4); i++) {
            tell(campsText());
            is("camps()", x.camps(), y.camps());
        }
        for (int i = 0; i < CALLS; i++) {
            call(random.nextInt(100));
            compare();
        }
    }

    private void is(String call, long got, long want) {
        DUE.is("run " + run + ": " + call, got, want);
    }

    private void is(String call, boolean got, boolean want) {
        DUE.is("run " + run + ": " + call, got, want);
    }

    private void compare() {
        for (int what = -1; what <= 12; what++) {
            is("count(" + what + ")", x.count(what), y.count(what));
        }
        for (int i = 0; i < Math.min(x.count(10), y.count(10)); i++) {
            is("row(" + i + ")", x.row(i), y.row(i));
        }
        for (int camp = 0; camp < Math.min(x.count(2), y.count(2)); camp++) {
            for (int what = 0; what < 8; what++) {
                is("camp(" + camp + ", " + what + ")", x.camp(camp, what), y.camp(camp, what));
            }
        }
    }

    // -- texts

    private void tell(String text) {
        x.end(0);
        y.end(0);
        for (int i = 0; i < text.length(); i += 4) {
            int v = 0;
            for (int k = i; k < i + 4; k++) {
                v = v << 8 | (k < text.length() ? text.charAt(k) : random.nextInt(256));
            }
            is("sign()", x.sign(v), y.sign(v));
        }
        is("end()", x.end(text.length()), y.end(text.length()));
    }

    private String cut(String text, int most) {
        return text.length() > most ? text.substring(0, most) : text;
    }

    private String spoiled(String text, String signs) {
        StringBuilder s = new StringBuilder(text);
        int kind = random.nextInt(10);
        if (kind == 0 && s.length() > 0) {
            s.setCharAt(random.nextInt(s.length()), signs.charAt(random.nextInt(signs.length())));
        } else if (kind == 1) {
            s.insert(random.nextInt(s.length() + 1), signs.charAt(random.nextInt(signs.length())));
        } else if (kind == 2 && s.length() > 0) {
            s.setLength(random.nextInt(s.length()));
        } else if (kind == 3 && s.length() > 0) {
            s.deleteCharAt(random.nextInt(s.length()));
        }
        return cut(s.toString(), 80);
    }

    private String campsText() {
        StringBuilder s = new StringBuilder();
        int lines = random.nextInt(12) == 0 ? random.nextInt(11) : random.nextInt(4);
        for (int i = 0; i < lines; i++) {
            int r = random.nextInt(y.rows);
            int c = random.nextInt(y.columns);
            int h = 1 + random.nextInt(Math.min(3, y.rows - r));
            int w = 1 + random.nextInt(Math.min(3, y.columns - c));
            s.append(i > 0 ? ";" : "").append(r).append(c).append(h).append(w);
            s.append(1 + random.nextInt(9)).append(random.nextInt(random.nextInt(2) * 9 + 1));
        }
        return spoiled(s.toString(), "0123456789;x");
    }

    private String ruleText() {
        int kind = random.nextInt(8);
        if (kind == 0) {
            return "";
        }
        if (kind == 1) {
            StringBuilder s = new StringBuilder();
            String signs = "saohwcrn0123456789+-*/<>=()()--";
            for (int i = random.nextInt(50); i >= 0; i--) {
                s.append(signs.charAt(random.nextInt(signs.length())));
            }
            return s.toString();
        }
        String[] mild = {"0", "(n=0)", "(o>0)", "s/5", "1+(o>1)", "(a=3)", "n/5", "o", "c<2", "(a-r)/3", "-(0-o)"};
        return kind < 5 ? mild[random.nextInt(mild.length)] : spoiled(expression(3), "saohwcrn0123456789+-*/<>=()z ");
    }

    private String expression(int depth) {
        String e = sum(depth);
        return random.nextInt(3) == 0 ? e + "<>=".charAt(random.nextInt(3)) + sum(depth) : e;
    }

    private String sum(int depth) {
        String e = product(depth);
        for (int i = random.nextInt(3); i > 0; i--) {
            e += "+-".charAt(random.nextInt(2)) + product(depth);
        }
        return e;
    }

    private String product(int depth) {
        String e = thing(depth);
        for (int i = random.nextInt(2); i > 0; i--) {
            e += "*/".charAt(random.nextInt(2)) + thing(depth);
        }
        return e;
    }

    private String thing(int depth) {
        String minus = "---".substring(0, random.nextInt(12) / 9);
        if (depth > 0 && random.nextInt(4) == 0) {
            return minus + "(" + expression(depth - 1) + ")";
        }
        if (random.nextInt(2) == 0) {
            return minus + "saohwcrn".charAt(random.nextInt(8));
        }
        return minus + random.nextInt(random.nextInt(3) == 0 ? 1000 : 10);
    }

    private String storyText() {
        StringBuilder s = new StringBuilder();
        int acts = random.nextInt(8) == 0 ? random.nextInt(24) : random.nextInt(6);
        for (int i = 0; i < acts; i++) {
            switch (random.nextInt(5)) {
                case 0:
                    s.append('n').append(random.nextInt(4));
                    break;
                case 1:
                    s.append('p').append(random.nextInt(5)).append(random.nextInt(5)).append(1 + random.nextInt(3));
                    s.append(1 + random.nextInt(2)).append(1 + random.nextInt(9)).append(random.nextInt(10));
                    break;
                case 2:
                    s.append('t').append(random.nextInt(5)).append(1 + random.nextInt(9));
                    break;
                case 3:
                    s.append('s').append(random.nextInt(5)).append(1 + random.nextInt(9));
                    break;
                default:
                    s.append('m').append(random.nextInt(5)).append(random.nextInt(random.nextInt(9) == 0 ? 10 : 4));
            }
        }
        return spoiled(s.toString(), "nptsm0123456789x");
    }

    // -- numbers: most of them in their bounds

    private int upTo(int low, int high) {
        int kind = random.nextInt(40);
        if (kind == 0) {
            return low - 1;
        }
        if (kind == 1) {
            return high + 1;
        }
        if (kind == 2) {
            int[] odd = {Integer.MIN_VALUE, Integer.MAX_VALUE, -2, 36, 64, 100, 1 << 16};
            return odd[random.nextInt(odd.length)];
        }
        return high < low ? low : low + random.nextInt(high - low + 1);
    }

    private int anyCamp() {
        return upTo(0, y.now.camps.size() - 1);
    }

    private int anyCell() {
        return upTo(0, y.cells() - 1);
    }

    // -- calls

    private void call(int which) {
        if (which < 30) {
            acts(which);
        } else if (which < 60) {
            where(which - 30);
        } else {
            others(which - 60);
        }
    }

    private void acts(int which) {
        int a = anyCamp();
        int n = upTo(1, 9);
        switch (which) {
            case 0:
                tell(random.nextInt(3) == 0 ? "" + (char) ('3' + random.nextInt(4)) + (char) ('3' + random.nextInt(4))
                        : spoiled("44", "2345678"));
                is("field()", x.field(), y.field());
                break;
            case 1: case 2: case 3:
                tell(campsText());
                is("camps()", x.camps(), y.camps());
                break;
            case 4: case 5: case 6:
                tell(ruleText());
                is("rule()", x.rule(), y.rule());
                break;
            case 7: case 8: case 9: case 10: {
                int years = random.nextInt(20) == 0 ? upTo(0, 60) : upTo(0, 2);
                is("years(" + years + ")", x.years(years), y.years(years));
                break;
            }
            case 11: case 12: case 13: case 14: case 15: {
                int cell = anyCell();
                int h = upTo(1, 3);
                int w = upTo(1, 3);
                int p = upTo(0, 9);
                is("pitch", x.pitch(cell, h, w, n, p), y.pitch(cell, h, w, n, p));
                break;
            }
            case 16: case 17:
                is("treads", x.treads(a, n), y.treads(a, n));
                break;
            case 18: case 19: case 20:
                is("sings", x.sings(a, n), y.sings(a, n));
                break;
            case 21: case 22: {
                int way = upTo(0, 3);
                is("moves", x.moves(a, way), y.moves(a, way));
                break;
            }
            case 23: case 24: case 25:
                tell(storyText());
                is("story()", x.story(), y.story());
                break;
            case 26: {
                int kind = upTo(0, 2);
                int many = upTo(0, 8);
                int f = random.nextInt(2) == 0 ? random.nextInt(12) - 2 : random.nextInt();
                int step = random.nextInt(3) == 0 ? random.nextInt() : random.nextInt(700) - 350;
                is("sheet", x.sheet(kind, many, f, step), y.sheet(kind, many, f, step));
                break;
            }
            default:
                is("undo()", x.undo(), y.undo());
        }
    }

    private void where(int which) {
        int a = anyCamp();
        int cell = anyCell();
        int h = upTo(1, 3);
        int w = upTo(1, 3);
        int year = upTo(0, random.nextInt(2) == 0 ? 99 : 5);
        switch (which) {
            case 0: case 1:
                is("slept()", x.slept(), y.slept());
                break;
            case 2: case 3:
                is("crosses()", x.crosses(), y.crosses());
                break;
            case 4: case 5:
                is("heap(" + a + ")", x.heap(a), y.heap(a));
                break;
            case 6: case 7:
                is("gone(" + a + ")", x.gone(a), y.gone(a));
                break;
            case 8: case 9:
                is("lies(" + a + ", " + year + ")", x.lies(a, year), y.lies(a, year));
                break;
            case 10: case 11:
                is("clears(" + cell + ")", x.clears(cell), y.clears(cell));
                break;
            case 12: case 13:
                is("room", x.room(h, w), y.room(h, w));
                break;
            case 14: case 15:
                is("when", x.when(h, w), y.when(h, w));
                break;
            case 16: case 17:
                is("least", x.least(h, w), y.least(h, w));
                break;
            case 18: case 19:
                is("largest()", x.largest(), y.largest());
                break;
            case 20:
                is("makes", x.makes(h, w), y.makes(h, w));
                break;
            case 21: case 22: {
                int to = anyCell();
                int camps = random.nextInt(4) == 0 ? upTo(0, (1 << y.now.camps.size()) - 1)
                        : random.nextInt(256) & y.onBits(y.now);
                is("meets", x.meets(cell, to, camps), y.meets(cell, to, camps));
                break;
            }
            case 23: case 24: {
                int to = anyCell();
                is("quiet", x.quiet(cell, to), y.quiet(cell, to));
                break;
            }
            case 25: case 26: {
                int to = anyCell();
                is("soft", x.soft(cell, to), y.soft(cell, to));
                break;
            }
            case 27: case 28: {
                int r = upTo(0, y.rows - 1);
                is("seen(" + r + ")", x.seen(r), y.seen(r));
                break;
            }
            default:
                is("seats()", x.seats(), y.seats());
        }
    }

    private void others(int which) {
        int v = upTo(0, random.nextInt(2) == 0 ? 9 : 3);
        switch (which) {
            case 0: case 1: case 2: case 3: {
                int a = anyCamp();
                int n = random.nextInt(3) == 0 ? upTo(0, 30) : upTo(0, 5);
                int is = upTo(0, 1);
                is("marked", x.marked(a, n, is), y.marked(a, n, is));
                break;
            }
            case 4:
                is("wiped()", x.wiped(), y.wiped());
                break;
            case 5:
                is("laws()", x.laws(), y.laws());
                break;
            case 6:
                is("watch()", x.watch(), y.watch());
                break;
            case 7: case 8: case 9: {
                int what = upTo(0, 4);
                is("heard(" + what + ", " + v + ")", x.heard(what, v), y.heard(what, v));
                break;
            }
            case 10:
                is("forget()", x.forget(), y.forget());
                break;
            case 11: case 12: case 13:
                is("fits()", x.fits(), y.fits());
                break;
            case 14: case 15: case 16: {
                int cell = anyCell();
                int k = random.nextInt(2) == 0 ? upTo(0, 8) : upTo(0, 2);
                int p = upTo(0, 10);
                is("sung", x.sung(cell, k, p), y.sung(cell, k, p));
                break;
            }
            case 17:
                fences();
                break;
            case 18: case 19: case 20:
                tell(ruleText());
                is("law()", x.law(), y.law());
                break;
            case 21: {
                int cups = upTo(0, 20);
                is("rests(" + cups + ")", x.rests(cups), y.rests(cups));
                break;
            }
            case 22: case 23: case 24: {
                int seed = random.nextInt(2) == 0 ? random.nextInt() : random.nextInt(100);
                int n = upTo(1, 60);
                is("drawn", x.drawn(seed, n), y.drawn(seed, n));
                break;
            }
            case 25: case 26: {
                int i = upTo(0, 2);
                is("keep(" + i + ")", x.keep(i), y.keep(i));
                break;
            }
            case 27: {
                int i = upTo(0, 2);
                is("again(" + i + ")", x.again(i), y.again(i));
                break;
            }
            case 28: {
                int signs = random.nextInt();
                is("sign()", x.sign(signs), y.sign(signs));
                break;
            }
            case 29: {
                int n = upTo(0, y.text.length());
                is("end(" + n + ")", x.end(n), y.end(n));
                break;
            }
            default:
                asked();
        }
    }

    private void fences() {
        int n = random.nextInt(8) == 0 ? (random.nextBoolean() ? 41 : -1) : random.nextInt(17);
        is("fence(" + n + ")", x.fence(n), y.fence(n));
    }

    private void asked() {
        int cell = anyCell();
        int what = upTo(0, 2);
        is("cell(" + cell + ", " + what + ")", asked(() -> x.cell(cell, what)), asked(() -> y.cell(cell, what)));
        int camp = anyCamp();
        int of = upTo(0, 7);
        is("camp(" + camp + ", " + of + ")", asked(() -> x.camp(camp, of)), asked(() -> y.camp(camp, of)));
        int i = upTo(0, y.row.size());
        is("row(" + i + ")", asked(() -> x.row(i)), asked(() -> y.row(i)));
    }

    private static long asked(Due.Call call) {
        try {
            return call.answer();
        } catch (NoSuchElementException e) {
            return Long.MIN_VALUE;
        }
    }
}
