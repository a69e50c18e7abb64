/** Boundary cases of promises 40 to 44: nights by chance, the fence, another rule, guests at rest, years drawn. */
final class EdgesOfChance {
    private static final String EIGHT = "001110;001110;001110;001110;001110;001110;001110;001110";
    private final Edges e;

    EdgesOfChance(Edges e) {
        this.e = e;
    }

    void check() {
        sung();
        fence();
        law();
        rests();
        drawnRefused();
        drawnLikeActs();
    }

    private void sung() {
        e.of(40, "Tonight each CAMP that is ON sings by p tenths (0 .. 10), each by itself: how likely k (0 .. 8) or more do that "
                + "lie over a CELL: 0; the ROW: the fraction.");
        FieldKeepsCamps x = Due.with("33", EIGHT);
        e.told("none or more of eight, by 0", x, x.sung(0, 0, 0), 0, 1, 1);
        e.told("none or more of eight, by 10", x, x.sung(0, 0, 10), 0, 1, 1);
        e.told("one or more of eight, by 0", x, x.sung(0, 1, 0), 0, 0, 1);
        e.told("all of eight, by 10", x, x.sung(0, 8, 10), 0, 1, 1);
        e.told("all of eight, by 1", x, x.sung(0, 8, 1), 0, 1, 100000000);
        e.told("all of eight, by 9", x, x.sung(0, 8, 9), 0, 43046721, 100000000);
        e.told("one or more of eight, by 1", x, x.sung(0, 1, 1), 0, 100000000 - 43046721, 100000000);
        e.told("all of eight, by 5", x, x.sung(0, 8, 5), 0, 1, 256);
        e.told("seven or more of eight, by 5", x, x.sung(0, 7, 5), 0, 9, 256);
        x.treads(7, 1);
        e.told("eight of seven, by 10", x, x.sung(0, 8, 10), 0, 0, 1);
        e.told("seven of seven, by 10", x, x.sung(0, 7, 10), 0, 1, 1);
        e.told("none or more of none", x, x.sung(8, 0, 5), 0, 1, 1);
        e.told("one of none", x, x.sung(8, 1, 10), 0, 0, 1);
        e.of(40, "NONE: others.");
        for (int cell : new int[] {-1, 9, Edges.HIGH, Edges.LOW}) {
            e.none("CELL " + cell, x, () -> x.sung(cell, 0, 0));
        }
        for (int k : new int[] {-1, 9, Edges.HIGH, Edges.LOW}) {
            e.none("k " + k, x, () -> x.sung(0, k, 0));
        }
        for (int p : new int[] {-1, 11, Edges.HIGH, Edges.LOW}) {
            e.none("p " + p, x, () -> x.sung(0, 0, p));
        }
    }

    private void fence() {
        e.of(41, "Farmer and camps by turns take stakes out of a fence of n (0 .. 40) in a line: one, or two or three beside each "
                + "other (gaps stay gaps); who takes the last one has won: 1 if the first one wins by best play, else 0; the ROW: "
                + "the least move by which he does (how many there are to the left of those that he takes, how many he takes; "
                + "nothing without).");
        FieldKeepsCamps x = new FieldKeepsCamps();
        x.slept();
        e.told("fence(0)", x, x.fence(0), 0);
        e.told("fence(1)", x, x.fence(1), 1, 0, 1);
        e.told("fence(2)", x, x.fence(2), 1, 0, 2);
        e.told("fence(3)", x, x.fence(3), 1, 0, 3);
        e.told("fence(4): gaps stay gaps", x, x.fence(4), 1, 1, 2);
        e.told("fence(5)", x, x.fence(5), 1, 1, 3);
        e.told("fence(6)", x, x.fence(6), 1, 2, 2);
        int[] nimbers = nimbers(40);
        for (int n = 1; n <= 40; n++) {
            int answer = x.fence(n);
            long[] row = leastMove(nimbers, n);
            e.told("fence(" + n + ")", x, answer, row.length > 0 ? 1 : 0, row);
        }
        e.of(41, "NONE: another n.");
        for (int n : new int[] {-1, 41, Edges.HIGH, Edges.LOW}) {
            e.none("fence(" + n + ")", x, () -> x.fence(n));
        }
    }

    private static int[] nimbers(int most) {
        int[] of = new int[most + 1];
        for (int n = 1; n <= most; n++) {
            boolean[] reached = new boolean[256];
            for (int left = 0; left < n; left++) {
                for (int right = Math.max(0, n - left - 3); left + right < n; right++) {
                    reached[of[left] ^ of[right]] = true;
                }
            }
            while (reached[of[n]]) {
                of[n]++;
            }
        }
        return of;
    }

    private static long[] leastMove(int[] nimbers, int n) {
        for (int left = 0; left < n; left++) {
            for (int many = 1; many <= Math.min(3, n - left); many++) {
                if (nimbers[left] == nimbers[n - left - many]) {
                    return new long[] {left, many};
                }
            }
        }
        return new long[0];
    }

    private void law() {
        e.of(42, "THE TEXT is another RULE (an empty one: none): how many CAMPS are ON in 9 YEARS by it, less by THE RULE: how "
                + "many (below 0, too); the ROW: both, then LOSS by it now of all CAMPS, in turn (0 of one that is not ON).");
        FieldKeepsCamps x = Due.with("44", "001190;111190");
        e.told("lost in the ninth YEAR", x, Due.law(x, "(a=8)*9"), 0, 0, 0, 0, 0);
        e.told("lost in the tenth YEAR", x, Due.law(x, "(a=9)*9"), 2, 2, 0, 0, 0);
        Due.law(x, "1+".repeat(19) + "12");
        e.told("none as none, behind a long one", x, Due.law(x, ""), 0, 0, 0, 1, 1);
        Due.rule(x, "0");
        e.told("none, less than by THE RULE", x, Due.law(x, ""), -2, 0, 2, 1, 1);
        x.treads(0, 9);
        e.told("one is not ON", x, Due.law(x, "s"), -1, 0, 1, 0, 9);
        e.told("as by THE RULE", x, Due.law(x, "0"), 0, 1, 1, 0, 0);
        FieldKeepsCamps y = new FieldKeepsCamps();
        e.told("no CAMPS", y, Due.law(y, "9"), 0, 0, 0);
        FieldKeepsCamps z = Due.with("44", EIGHT);
        e.told("eight CAMPS", z, Due.law(z, "o"), 0, 0, 0, 7, 7, 7, 7, 7, 7, 7, 7);
        e.told("eight CAMPS by 0", z, Due.law(z, "0"), 8, 8, 0, 0, 0, 0, 0, 0, 0, 0, 0);
        e.of(42, "-10000 - p: the sign at p can't stand there (as rule()).");
        e.answers("at once", x, () -> Due.law(x, "z"), -10000);
        e.answers("its end", x, () -> Due.law(x, "1+"), -10002);
        e.answers("the fifth (", x, () -> Due.law(x, "((((("), -10004);
        String forty = "1+".repeat(19) + "12";
        e.answers("the 40th", x, () -> Due.law(x, forty.substring(0, 39) + "z"), -10039);
        e.answers("41 signs", x, () -> Due.law(x, forty + "3"), -10040);
        e.answers("40 signs that end too early", x, () -> Due.law(x, "1+".repeat(20)), -10040);
        e.is("signs", x.count(11), 0);
        e.told("40 signs", x, Due.law(x, forty), -1, 0, 1, 0, 9);
        e.is("THE RULE stays", x.camp(1, 6), 0);
    }

    private void rests() {
        e.of(43, "Farmer and guest bring x and y (0 .. 9) cups; each has v (0 .. 20), if both bring 5 or more together, and pays 1 "
                + "for each of its own, and 1 more for each that both bring together above 9. Pairs by which neither would have "
                + "more by another number alone: how many; the ROW: the least (nothing without).");
        FieldKeepsCamps x = new FieldKeepsCamps();
        // five together, of which neither pays more than v; none at all, if five cost v or more
        for (int v = 0; v <= 20; v++) {
            int pairs = v <= 5 ? 1 : 0;
            for (int own = 0; own <= 5; own++) {
                pairs += own <= v && 5 - own <= v ? 1 : 0;
            }
            e.told("rests(" + v + ")", x, x.rests(v), pairs, 0, v <= 5 ? 0 : 5);
        }
        e.told("rests(2)", x, x.rests(2), 1, 0, 0);
        e.told("rests(3)", x, x.rests(3), 3, 0, 0);
        e.told("rests(5)", x, x.rests(5), 7, 0, 0);
        e.told("rests(6)", x, x.rests(6), 6, 0, 5);
        e.of(43, "NONE: another v.");
        for (int v : new int[] {-1, 21, Edges.HIGH, Edges.LOW}) {
            e.none("rests(" + v + ")", x, () -> x.rests(v));
        }
    }

    private void drawnRefused() {
        e.of(44, "NONE: another n.");
        FieldKeepsCamps x = Due.with("33", "001190");
        x.slept();
        for (int n : new int[] {-1, 0, 61, Edges.HIGH, Edges.LOW}) {
            e.none("drawn(1, " + n + ")", x, () -> x.drawn(1, n));
        }
        e.is("n 1", x.drawn(1, 1) >= 0, true);
        e.is("n 60", x.drawn(1, 60) >= 0, true);
    }

    private int last;

    /** A DRAW, with longs: the lowest 32 bits are R, the upper half of them is told. */
    private int draw(int n) {
        long r = (last & 0xffffffffL) * 1103515245L + 12345L & 0xffffffffL;
        last = (int) r;
        return (int) (r / 65536 % n);
    }

    private void drawnLikeActs() {
        e.of(44, "n times (1 .. 60): a DRAW of 4 tells: 0, 1: A YEAR; 2: a DRAW of CELLS, a DRAW of 3, a DRAW of 3, a DRAW of 9 "
                + "tell where which CAMP is pitched (CELL, HEIGHT and WIDTH less 1, STRENGTH less 1, SLIP 0), if it can be; 3: a "
                + "DRAW of CAMPS, a DRAW of 4 tell which is moved which way, if it can be (no DRAWS without CAMPS): how many "
                + "CAMPS are ON then; the ROW: CAMPS then, how many were LOST in these.");
        int[] seeds = {0, 1, -1, Edges.HIGH, Edges.LOW, 12345, -98765, 7, 8, 9, 10, 11};
        int[] many = {1, 2, 3, 59, 60};
        String[] camps = {"", "001111;221190", EIGHT, "001110;001120;001130;001140;001150;001160;001170"};
        int full = 0;
        for (int seed : seeds) {
            for (int n : many) {
                for (String told : camps) {
                    full += likeActs(seed, n, told);
                }
            }
        }
        e.is("some were drawn till there were 8", full > 5, true);
        e.of(44, "A DRAW of n: R = R times 1103515245 + 12345 (as ints; R is seed at first), (R without sign, by 65536) % n.");
        // seed 0: R is 12345, a DRAW 0; one whose R is below 0 as an int
        last = 0;
        e.is("a DRAW of 4 from 0", draw(4), 0);
        FieldKeepsCamps x = Due.with("33", "001110");
        e.told("A YEAR", x, x.drawn(0, 1), 0, 1, 1);
        int low = 0;
        for (int seed = 1; seed < 40; seed++) {
            last = seed;
            int kind = draw(4);
            low += last < 0 ? 1 : 0;
            likeActs(seed, 1, "001110");
            e.is("a YEAR or none from " + seed, x.drawn(seed, 1) == 0, kind < 2);
        }
        e.is("some R were below 0", low > 5, true);
    }

    /** Does with years(), pitch() and moves() what the draws tell: 1 if there are eight camps then. */
    private int likeActs(int seed, int n, String told) {
        FieldKeepsCamps x = Due.with("34", told);
        FieldKeepsCamps y = Due.with("34", told);
        Due.rule(x, "(a>1)");
        Due.rule(y, "(a>1)");
        last = seed;
        int lost = 0;
        for (int i = 0; i < n; i++) {
            int kind = draw(4);
            if (kind < 2) {
                y.years(1);
                lost += (int) y.row(0);
            } else if (kind == 2) {
                int cell = draw(12);
                int height = 1 + draw(3);
                int width = 1 + draw(3);
                y.pitch(cell, height, width, 1 + draw(9), 0);
            } else if (y.count(2) > 0) {
                int camp = draw(y.count(2));
                y.moves(camp, draw(4));
            }
        }
        String call = "drawn(" + seed + ", " + n + ") with " + told;
        x.slept();
        e.told(call, x, x.drawn(seed, n), y.count(3), y.count(2), lost);
        e.is(call + " is a question", x.count(4) + x.count(5), 0);
        return told.length() < 55 && y.count(2) == 8 ? 1 : 0;
    }
}
