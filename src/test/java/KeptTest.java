/** Promises 45 to 48: what is kept, counts, the ROW. */
final class KeptTest {
    private static final Due DUE = new Due("kept");

    public static void main(String[] args) {
        kept();
        keptTillTold();
        counts();
        rows();
        DUE.finish();
    }

    private static void kept() {
        FieldKeepsCamps x = Due.with("44", "001131;331150");
        int[] wrong = {-1, 3, Integer.MAX_VALUE, Integer.MIN_VALUE};
        for (int i : wrong) {
            DUE.is("keep(" + i + ")", x.keep(i), false);
            DUE.is("again(" + i + ")", x.again(i), false);
        }
        DUE.is("again(0) of nothing", x.again(0), false);
        DUE.is("keep(0)", x.keep(0), true);
        x.years(4);
        DUE.is("LOST", x.count(5), 1);
        DUE.is("keep(2)", x.keep(2), true);
        x.pitch(8, 1, 1, 4, 0);
        DUE.is("again(1) of nothing", x.again(1), false);
        DUE.is("CAMPS", x.count(2), 3);
        DUE.is("again(0)", x.again(0), true);
        DUE.is("CAMPS", x.count(2), 2);
        DUE.is("YEAR", x.count(4), 0);
        DUE.is("LOST", x.count(5), 0);
        DUE.is("STRENGTH", x.count(6), 8);
        DUE.is("undoable", x.count(9), 0);
        DUE.is("again(2)", x.again(2), true);
        DUE.is("YEAR", x.count(4), 4);
        DUE.is("LOST", x.count(5), 1);
        DUE.is("AGE", x.camp(1, 5), 4);
        x.years(1);
        DUE.is("again(2) once more", x.again(2), true);
        DUE.is("YEAR", x.count(4), 4);
        DUE.is("keep(0) anew", x.keep(0), true);
        x.years(1);
        DUE.is("again(0)", x.again(0), true);
        DUE.is("YEAR", x.count(4), 4);
    }

    private static void keptTillTold() {
        FieldKeepsCamps x = Due.with("44", "001131");
        x.keep(0);
        x.keep(1);
        DUE.is("a refused camps()", Due.camps(x, "x"), -1);
        DUE.is("a refused field()", Due.field(x, "x"), -1);
        DUE.is("an empty camps()", Due.camps(x, ""), 0);
        DUE.is("again(0)", x.again(0), true);
        DUE.is("camps()", Due.camps(x, "111110"), 1);
        DUE.is("again(0)", x.again(0), false);
        DUE.is("again(1)", x.again(1), false);
        DUE.is("keep(1)", x.keep(1), true);
        DUE.is("again(0)", x.again(0), false);
        DUE.is("again(1)", x.again(1), true);
        DUE.is("field()", Due.field(x, "44"), 16);
        DUE.is("again(1)", x.again(1), false);
    }

    private static void counts() {
        FieldKeepsCamps x = Due.with("36", "001130;021150;041190");
        x.treads(1, 9);
        x.years(3);
        x.marked(0, 1, 1);
        x.heard(0, 1);
        x.heard(0, 2);
        x.sign(0);
        int[] due = {3, 6, 3, 1, 3, 1, 6, 1, 2, 2, 2, 4};
        for (int what = 0; what < due.length; what++) {
            DUE.is("count(" + what + ")", x.count(what), due[what]);
        }
        int[] wrong = {-1, 12, Integer.MAX_VALUE, Integer.MIN_VALUE};
        for (int what : wrong) {
            DUE.is("count(" + what + ")", x.count(what), -100);
        }
    }

    private static void rows() {
        FieldKeepsCamps x = new FieldKeepsCamps();
        DUE.noSuch("row(0) of a new one", () -> x.row(0));
        x.slept();
        DUE.is("row(2)", x.row(2), -1);
        int[] wrong = {-1, 3, Integer.MAX_VALUE, Integer.MIN_VALUE};
        for (int i : wrong) {
            DUE.noSuch("row(" + i + ")", () -> x.row(i));
        }
        x.pitch(0, 1, 1, 1, 0);
        x.keep(0);
        x.heard(0, 0);
        x.undo();
        DUE.row("calls that tell none", x, 0, 0, -1);
        Due.field(x, "66");
        Due.camps(x, "551110");
        DUE.row("field(), camps()", x, 0, 0, -1);
        x.heap(0);
        DUE.is("a number beyond an int", x.row(1), 1L << 35);
        DUE.noSuch("row(2)", () -> x.row(2));
    }
}
