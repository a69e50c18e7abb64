/** Promises 40 to 44: nights by chance, the fence, another rule, guests at rest, years drawn by a seed. */
final class ChanceTest {
    private static final Due DUE = new Due("chance");

    public static void main(String[] args) {
        nights();
        fences();
        otherRules();
        guests();
        draws();
        DUE.finish();
    }

    private static void nights() {
        FieldKeepsCamps x = Due.with("44", "001110;001110;001110;011110;001110");
        DUE.told("none or more", x, x.sung(0, 0, 5), 0, 1, 1);
        DUE.told("one or more of four", x, x.sung(0, 1, 5), 0, 15, 16);
        DUE.told("two or more of four", x, x.sung(0, 2, 5), 0, 11, 16);
        DUE.told("four of four", x, x.sung(0, 4, 3), 0, 81, 10000);
        DUE.told("five of four", x, x.sung(0, 5, 10), 0, 0, 1);
        DUE.told("surely", x, x.sung(0, 4, 10), 0, 1, 1);
        DUE.told("never", x, x.sung(0, 1, 0), 0, 0, 1);
        DUE.told("one of one", x, x.sung(1, 1, 4), 0, 2, 5);
        DUE.told("one of none", x, x.sung(2, 1, 4), 0, 0, 1);
        DUE.told("none of none", x, x.sung(2, 0, 0), 0, 1, 1);
        x.treads(0, 1);
        DUE.told("one that is not ON", x, x.sung(0, 3, 5), 0, 1, 8);
        int[][] wrong = {{-1, 0, 0}, {16, 0, 0}, {0, -1, 0}, {0, 9, 0}, {0, 0, -1}, {0, 0, 11}};
        for (int[] of : wrong) {
            DUE.told("sung", x, x.sung(of[0], of[1], of[2]), -1, 1, 8);
        }
        FieldKeepsCamps y = Due.with("33", "001110;001110;001110;001110;001110;001110;001110;001110");
        DUE.told("eight of eight", y, y.sung(0, 8, 1), 0, 1, 100000000);
        DUE.told("one of eight", y, y.sung(0, 1, 1), 0, 56953279, 100000000);
        DUE.told("two of eight", y, y.sung(0, 2, 5), 0, 247, 256);
    }

    private static void fences() {
        FieldKeepsCamps x = new FieldKeepsCamps();
        Model model = new Model();
        DUE.told("fence(0)", x, x.fence(0), 0);
        for (int n = 1; n <= 18; n++) {
            int due = model.fence(n);
            long[] row = model.row.stream().mapToLong(Long::longValue).toArray();
            DUE.told("fence(" + n + ")", x, x.fence(n), due, row);
        }
        // who is first takes the middle and then does as the other did: he wins every fence
        for (int n = 1; n <= 40; n++) {
            DUE.is("fence(" + n + ")", x.fence(n), 1);
            DUE.is("numbers", x.count(10), 2);
            DUE.is("no further than the middle", x.row(0) <= n / 2, true);
        }
        long[] row = Due.rowOf(x);
        DUE.told("fence(41)", x, x.fence(41), -1, row);
        DUE.told("fence(-1)", x, x.fence(-1), -1, row);
        DUE.told("fence(3)", x, x.fence(3), 1, 0, 3);
        DUE.told("fence(4)", x, x.fence(4), 1, 1, 2);
    }

    private static void otherRules() {
        FieldKeepsCamps x = Due.with("44", "001190;111150;331180");
        x.treads(1, 9);
        // by none both are gone in 9; by 0 both are ON
        DUE.told("law() of 0", x, Due.law(x, "0"), 2, 2, 0, 0, 0, 0);
        DUE.told("law() of none", x, Due.law(x, ""), 0, 0, 0, 1, 0, 1);
        DUE.told("law() of s-7", x, Due.law(x, "(s>8)"), 2, 2, 0, 1, 0, 0);
        DUE.is("THE TEXT", x.count(11), 0);
        DUE.is("the rule stays", x.camp(0, 6), 1);
        Due.rule(x, "0");
        DUE.told("below 0", x, Due.law(x, "4"), -2, 0, 2, 4, 0, 4);
        DUE.told("none instead of 0", x, Due.law(x, ""), -2, 0, 2, 1, 0, 1);
        DUE.told("bad", x, Due.law(x, "4+"), -10002, 0, 2, 1, 0, 1);
        DUE.is("THE TEXT", x.count(11), 0);
        DUE.told("bad at once", x, Due.law(x, "("), -10001, 0, 2, 1, 0, 1);
        DUE.is("YEAR", x.count(4), 0);
        DUE.is("undoable", x.count(9), 1);
    }

    private static void guests() {
        FieldKeepsCamps x = new FieldKeepsCamps();
        DUE.told("rests(0)", x, x.rests(0), 1, 0, 0);
        // both bring 5 together, none more than v; or none at all, if 5 cost more than v
        DUE.told("rests(1)", x, x.rests(1), 1, 0, 0);
        DUE.told("rests(2)", x, x.rests(2), 1, 0, 0);
        DUE.told("rests(3)", x, x.rests(3), 3, 0, 0);
        DUE.told("rests(4)", x, x.rests(4), 5, 0, 0);
        DUE.told("rests(5)", x, x.rests(5), 7, 0, 0);
        DUE.told("rests(6)", x, x.rests(6), 6, 0, 5);
        DUE.told("rests(20)", x, x.rests(20), 6, 0, 5);
        DUE.told("rests(21)", x, x.rests(21), -1, 0, 5);
        DUE.told("rests(-1)", x, x.rests(-1), -1, 0, 5);
    }

    private static void draws() {
        FieldKeepsCamps x = Due.with("33", "001110");
        DUE.is("drawn(1, 0)", x.drawn(1, 0), -1);
        DUE.is("drawn(1, 61)", x.drawn(1, 61), -1);
        DUE.is("drawn(1, -1)", x.drawn(1, -1), -1);
        DUE.is("the ROW", x.count(10), 0);
        int[] kinds = new int[4];
        for (int seed = -50; seed < 50; seed++) {
            int kind = (seed * 1103515245 + 12345 >>> 16) % 4;
            kinds[kind]++;
            int answer = x.drawn(seed, 1);
            if (kind < 2) {
                DUE.told("a year", x, answer, 0, 1, 1);
            } else if (kind == 3) {
                DUE.told("a move", x, answer, 1, 1, 0);
            } else {
                long[] row = Due.rowOf(x);
                DUE.is("a camp more, or none", answer == row[0] && row[0] >= 1 && row[0] <= 2 && row[1] == 0, true);
            }
        }
        for (int kind = 0; kind < 4; kind++) {
            DUE.is("kind " + kind + " was drawn", kinds[kind] > 5, true);
        }
        Model model = new Model();
        FieldKeepsCamps y = new FieldKeepsCamps();
        for (int n = 1; n <= 60; n++) {
            int due = model.drawn(n * 77, n);
            long[] row = model.row.stream().mapToLong(Long::longValue).toArray();
            DUE.told("drawn", y, y.drawn(n * 77, n), due, row);
        }
        DUE.is("CAMPS", y.count(2), 0);
    }
}
