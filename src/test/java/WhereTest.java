/** Promises 17 to 22: what is on where, who crosses whom, where a camp lies later and when it is gone. */
final class WhereTest {
    private static final Due DUE = new Due("where");

    public static void main(String[] args) {
        sleptIn();
        crossings();
        heaps();
        goneFirst();
        liesLater();
        cleared();
        questionsChangeNothing();
        DUE.finish();
    }

    private static void sleptIn() {
        FieldKeepsCamps x = new FieldKeepsCamps();
        DUE.told("slept() of none", x, x.slept(), 0, 0, 0, -1);
        x = Due.with("66", "551150");
        DUE.told("slept() of the last cell", x, x.slept(), 1L << 35, 1, 1, 35);
        Due.camps(x, "442220;442190");
        DUE.told("slept()", x, x.slept(), 1L << 35 | 1L << 34 | 1L << 29 | 1L << 28, 4, 2, 28);
        x.treads(2, 9);
        DUE.told("slept() with one that is not ON", x, x.slept(), 1L << 35 | 1L << 34 | 1L << 29 | 1L << 28, 4, 2, 35);
        x.sheet(3, 0, 0, 0);
        DUE.told("slept() of camps that are not ON", x, x.slept(), 0, 0, 0, -1);
    }

    private static void crossings() {
        FieldKeepsCamps x = Due.with("44", "002250");
        DUE.told("crosses() of one", x, x.crosses(), 0, 0);
        Due.camps(x, "221110;112220;111110");
        DUE.told("crosses()", x, x.crosses(), 4, 2, 0, 2);
        x.treads(2, 9);
        DUE.told("crosses() without 2", x, x.crosses(), 1, 1, 0, 3);
        x.treads(3, 9);
        DUE.told("crosses() without 3", x, x.crosses(), 0, 0);
        FieldKeepsCamps y = Due.with("44", "001210;021210;102110");
        DUE.told("beside each other", y, y.crosses(), 0, 0);
        FieldKeepsCamps z = Due.with("33", "221110;001110;002210;221110");
        DUE.told("in the first cell and the last", z, z.crosses(), 2, 2, 0, 3);
    }

    private static void heaps() {
        FieldKeepsCamps x = Due.with("55", "001350;021350;041150;143150;331110;421250;331130");
        DUE.told("heap(0)", x, x.heap(0), 7, 3, 31);
        DUE.told("heap(2)", x, x.heap(2), 7, 3, 31);
        DUE.told("heap(3)", x, x.heap(3), 8, 1, 1L << 9 | 1L << 14 | 1L << 19);
        DUE.told("heap(6)", x, x.heap(6), 16 + 64, 2, 1L << 18);
        x.treads(1, 9);
        DUE.told("heap(0)", x, x.heap(0), 1, 1, 7);
        DUE.told("heap(1)", x, x.heap(1), -2, 1, 7);
        DUE.told("heap(7)", x, x.heap(7), -1, 1, 7);
        DUE.told("heap(-1)", x, x.heap(-1), -1, 1, 7);
    }

    private static void goneFirst() {
        FieldKeepsCamps x = Due.with("44", "002231;112252;031190");
        DUE.told("gone(0)", x, x.gone(0), 3, 0);
        DUE.told("gone(1)", x, x.gone(1), 5, 4);
        DUE.told("gone(2)", x, x.gone(2), 9, 3);
        x.treads(0, 9);
        DUE.told("gone now", x, x.gone(0), 0, 0);
        Due.rule(x, "(a>97)");
        // AGE is 98 ahead of the year from 98 to 99
        x.treads(1, 4);
        DUE.told("gone in 99", x, x.gone(1), 99, 4 + (98 / 2 + 1) % 3);
        x.sings(1, 1);
        DUE.told("gone in 100", x, x.gone(1), -2, 4 + (98 / 2 + 1) % 3);
        DUE.told("gone(3)", x, x.gone(3), -1, 4 + (98 / 2 + 1) % 3);
        DUE.told("gone(-1)", x, x.gone(-1), -1, 4 + (98 / 2 + 1) % 3);
    }

    private static void liesLater() {
        FieldKeepsCamps x = Due.with("44", "002231;112252;031190");
        DUE.told("lies(0, 0)", x, x.lies(0, 0), 0, 3, 7);
        DUE.told("lies(0, 1)", x, x.lies(0, 1), 1, 2, 7);
        DUE.told("lies(0, 2)", x, x.lies(0, 2), 2, 1, 7);
        DUE.told("lies(0, 3)", x, x.lies(0, 3), 0, 0, 6);
        DUE.told("lies(1, 99)", x, x.lies(1, 99), 4, 0, 0);
        DUE.told("lies(1, 100)", x, x.lies(1, 100), -1, 0, 0);
        DUE.told("lies(1, -1)", x, x.lies(1, -1), -1, 0, 0);
        DUE.told("lies(3, 1)", x, x.lies(3, 1), -1, 0, 0);
        DUE.told("lies(-1, 1)", x, x.lies(-1, 1), -1, 0, 0);
    }

    private static void cleared() {
        FieldKeepsCamps x = Due.with("44", "002231;112252;031190");
        DUE.told("clears(0)", x, x.clears(0), 1, 1);
        DUE.told("clears(15)", x, x.clears(15), 0, 0);
        DUE.told("clears(3)", x, x.clears(3), 9, 9);
        // camp 1 lies over columns 1 and 2, from 2 on over 2 and 3, from 4 on over 0 and 1
        DUE.told("clears(9)", x, x.clears(9), 2, 3);
        Due.rule(x, "0");
        DUE.told("clears(9)", x, x.clears(9), 2, 66);
        DUE.told("clears(3), never", x, x.clears(3), -2, 66);
        DUE.told("clears(16)", x, x.clears(16), -1, 66);
        DUE.told("clears(-1)", x, x.clears(-1), -1, 66);
    }

    private static void questionsChangeNothing() {
        FieldKeepsCamps x = Due.with("44", "002231;112252;031190");
        x.years(1);
        x.gone(0);
        x.lies(1, 50);
        x.clears(3);
        x.when(3, 3);
        x.laws();
        x.watch();
        Due.law(x, "9");
        x.drawn(5, 60);
        x.sung(0, 1, 5);
        x.seats();
        int[] counts = {4, 4, 3, 3, 1, 0, 14, 0, 0, 1};
        for (int what = 0; what < counts.length; what++) {
            DUE.is("count(" + what + ") behind questions", x.count(what), counts[what]);
        }
        DUE.is("CELL", x.camp(0, 0), 1);
        DUE.is("AGE", x.camp(0, 5), 1);
        DUE.is("LOSS", x.camp(0, 6), 1);
    }
}
