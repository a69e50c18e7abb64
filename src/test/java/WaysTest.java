/** Promises 28 to 32: ways through the field, what is seen from the wall, the fewest seats. */
final class WaysTest {
    private static final Due DUE = new Due("ways");

    public static void main(String[] args) {
        meeting();
        longMeeting();
        quietWays();
        softWays();
        seenFromRows();
        fewestSeats();
        DUE.finish();
    }

    private static void meeting() {
        FieldKeepsCamps x = Due.with("44", "002231;112252;031190");
        DUE.told("meets(0, 15, 4)", x, x.meets(0, 15, 4), 6, 0, 1, 2, 3, 7, 11, 15);
        DUE.told("meets(0, 0, 2)", x, x.meets(0, 0, 2), 4, 0, 1, 5, 1, 0);
        DUE.told("meets(5, 5, 3)", x, x.meets(5, 5, 3), 0, 5);
        DUE.told("meets(12, 12, 7)", x, x.meets(12, 12, 7), 12, 12, 8, 4, 0, 1, 2, 3, 2, 1, 5, 4, 8, 12);
        DUE.told("meets(15, 12, 0)", x, x.meets(15, 12, 0), 3, 15, 14, 13, 12);
        long[] row = Due.rowOf(x);
        DUE.told("no such camp", x, x.meets(0, 0, 8), -1, row);
        DUE.told("no such camps", x, x.meets(0, 0, -1), -1, row);
        DUE.told("no such camps", x, x.meets(0, 0, Integer.MIN_VALUE), -1, row);
        DUE.told("no such cell", x, x.meets(-1, 0, 0), -1, row);
        DUE.told("no such cell", x, x.meets(16, 0, 0), -1, row);
        DUE.told("no such cell", x, x.meets(0, -1, 0), -1, row);
        DUE.told("no such cell", x, x.meets(0, 16, 0), -1, row);
        x.treads(1, 9);
        DUE.told("one that is not ON", x, x.meets(0, 0, 2), -2, row);
        DUE.told("one that is not ON, and one that is not there", x, x.meets(0, 0, 10), -1, row);
        DUE.told("the others", x, x.meets(0, 3, 5), 3, 0, 1, 2, 3);
    }

    /** Eight camps in corners and on sides of the greatest field: the longest rows. */
    private static void longMeeting() {
        FieldKeepsCamps x = Due.with("66", "001110;051110;501110;551110;221110;231110;321110;331110");
        int steps = x.meets(0, 0, 255);
        // twenty from corner to corner, and six more for the four in the middle
        DUE.is("steps", steps, 20 + 6);
        DUE.is("numbers", x.count(10), steps + 1);
        long seen = 0;
        for (int i = 0; i <= steps; i++) {
            seen |= 1L << x.row(i);
            if (i > 0) {
                long far = Math.abs(x.row(i) / 6 - x.row(i - 1) / 6) + Math.abs(x.row(i) % 6 - x.row(i - 1) % 6);
                DUE.is("a step", far, 1);
            }
        }
        long all = 1L | 1L << 5 | 1L << 30 | 1L << 35 | 1L << 14 | 1L << 15 | 1L << 20 | 1L << 21;
        DUE.is("cells of all", seen & all, all);
    }

    private static void quietWays() {
        FieldKeepsCamps x = Due.with("44", "002231;112252;031190");
        DUE.told("quiet(7, 12)", x, x.quiet(7, 12), 5, 7, 11, 15, 14, 13, 12);
        DUE.told("from one that is slept in", x, x.quiet(3, 7), 1, 3, 7);
        DUE.told("to one that is slept in", x, x.quiet(8, 9), 1, 8, 9);
        DUE.told("from and to", x, x.quiet(5, 6), 1, 5, 6);
        DUE.told("nowhere", x, x.quiet(5, 5), 0, 5);
        DUE.told("by one that is slept in, none", x, x.quiet(2, 12), -2, 5);
        DUE.told("no such cell", x, x.quiet(-1, 0), -1, 5);
        DUE.told("no such cell", x, x.quiet(0, 16), -1, 5);
        x.treads(2, 9);
        DUE.told("by one that is not ON", x, x.quiet(2, 12), 7, 2, 3, 7, 11, 15, 14, 13, 12);
        FieldKeepsCamps y = new FieldKeepsCamps();
        DUE.told("the least row", y, y.quiet(15, 0), 6, 15, 11, 7, 3, 2, 1, 0);
    }

    private static void softWays() {
        FieldKeepsCamps x = Due.with("44", "002231;112252;031190");
        DUE.told("soft(0, 15)", x, x.soft(0, 15), 6, 0, 4, 8, 12, 13, 14, 15);
        DUE.told("soft(5, 5)", x, x.soft(5, 5), 8, 5);
        DUE.told("soft(2, 12)", x, x.soft(2, 12), 5, 2, 6, 7, 11, 15, 14, 13, 12);
        DUE.told("no such cell", x, x.soft(16, 0), -1, 2, 6, 7, 11, 15, 14, 13, 12);
        DUE.told("no such cell", x, x.soft(0, -1), -1, 2, 6, 7, 11, 15, 14, 13, 12);
        FieldKeepsCamps y = new FieldKeepsCamps();
        DUE.told("the least row", y, y.soft(0, 10), 0, 0, 1, 2, 6, 10);
        // a way round that is longer, but softer, and one as soft that is shorter
        FieldKeepsCamps z = Due.with("33", "012110;111110");
        DUE.told("round", z, z.soft(0, 2), 0, 0, 3, 6, 7, 8, 5, 2);
        Due.camps(z, "211110");
        DUE.told("as soft, of fewer cells", z, z.soft(0, 2), 1, 0, 1, 2);
    }

    private static void seenFromRows() {
        FieldKeepsCamps x = Due.with("44", "002231;112252;031190");
        DUE.told("seen(0)", x, x.seen(0), 5, 2);
        DUE.told("seen(1)", x, x.seen(1), 3, 2);
        DUE.told("seen(2)", x, x.seen(2), 2, 1);
        DUE.told("seen(3)", x, x.seen(3), 0, 0);
        DUE.told("seen(4)", x, x.seen(4), -1, 0);
        DUE.told("seen(-1)", x, x.seen(-1), -1, 0);
        // of equal strength it is seen; of more strength in the same cell, too; behind a stronger one not
        FieldKeepsCamps y = Due.with("45", "001250;021250;021160;041150");
        DUE.told("seen(0)", y, y.seen(0), 7, 3);
        y.treads(2, 1);
        DUE.told("seen(0)", y, y.seen(0), 15, 4);
        y.treads(0, 5);
        DUE.told("one that is not ON", y, y.seen(0), 14, 3);
    }

    private static void fewestSeats() {
        FieldKeepsCamps x = Due.with("44", "002231;112252;031190");
        DUE.told("seats()", x, x.seats(), 2, 3, 0);
        DUE.is("undoable", x.count(9), 0);
        // row 1 sees 0, row 2 sees 0 and 1, row 3 sees 1 and 3, row 4 sees 1; 2 is behind 3
        FieldKeepsCamps y = Due.with("55", "102250;223250;341110;331190");
        DUE.told("one behind another", y, y.seats(), 2, 2 + 8, 4);
        FieldKeepsCamps z = Due.with("44", "001190;011110;101110;201110;301110");
        DUE.told("all rows", z, z.seats(), 4, 15, 2);
        z.treads(0, 9);
        DUE.told("all rows", z, z.seats(), 4, 15, 0);
        FieldKeepsCamps w = Due.with("44", "003110;103110");
        DUE.told("of as few the least", w, w.seats(), 1, 2, 0);
    }
}
