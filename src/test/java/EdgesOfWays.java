/** Boundary cases of promises 28 to 32: ways through the field, what is seen from the wall, the fewest seats. */
final class EdgesOfWays {
    private final Edges e;

    EdgesOfWays(Edges e) {
        this.e = e;
    }

    void check() {
        meets();
        meetsRefused();
        quiet();
        soft();
        seen();
        seats();
    }

    private void meets() {
        e.of(28, "The fewest steps (up, right, down, left) from a CELL to another one by which one is on a CELL of each of CAMPS "
                + "told as bits (all of them ON) at some time: how many; the ROW: CELLS in turn: of as short ways the least row.");
        FieldKeepsCamps x = Due.with("33", "221110;001110;011110");
        e.told("none told", x, x.meets(0, 8, 0), 4, 0, 1, 2, 5, 8);
        e.told("no step", x, x.meets(4, 4, 0), 0, 4);
        e.told("no step, on the one that is told", x, x.meets(8, 8, 1), 0, 8);
        e.told("at the beginning", x, x.meets(0, 3, 2), 1, 0, 3);
        e.told("at the end", x, x.meets(0, 1, 4), 1, 0, 1);
        e.told("at both", x, x.meets(0, 1, 6), 1, 0, 1);
        e.told("there and back", x, x.meets(0, 0, 1), 8, 0, 1, 2, 5, 8, 5, 2, 1, 0);
        e.told("all of them", x, x.meets(3, 3, 7), 8, 3, 0, 1, 2, 5, 8, 5, 4, 3);
        FieldKeepsCamps y = Due.with("33", "001110;011110;021110;101110;111110;121110;201110;211110");
        e.told("all eight", y, y.meets(0, 8, 255), 8, 0, 1, 2, 5, 4, 3, 6, 7, 8);
        FieldKeepsCamps z = Due.with("66", "001110;051110;501110;551110");
        e.is("four corners, from one to itself", z.meets(0, 0, 15), 20);
        e.is("numbers", z.count(10), 21);
        FieldKeepsCamps v = Due.with("66", "001110;051110;501110;551110;221110;231110;321110;331110");
        e.is("four corners, and four in the middle, from one to itself", v.meets(0, 0, 255), 26);
        e.is("numbers", v.count(10), 27);
        FieldKeepsCamps w = Due.with("66", "");
        e.told("through the whole FIELD", w, w.meets(35, 0, 0), 10, 35, 29, 23, 17, 11, 5, 4, 3, 2, 1, 0);
    }

    private void meetsRefused() {
        FieldKeepsCamps x = Due.with("34", "001120;111120;221120");
        x.treads(1, 1);
        e.of(28, "-2: one of them is not ON;");
        e.is("it is ON", x.meets(0, 0, 2), 4);
        x.treads(1, 1);
        e.answers("it is not ON", x, () -> x.meets(0, 0, 2), -2);
        e.answers("one of three is not ON", x, () -> x.meets(0, 0, 7), -2);
        e.is("the others are", x.meets(0, 0, 5), 8);
        e.of(28, "NONE: others.");
        for (int cell : new int[] {-1, 12, 36, Edges.HIGH, Edges.LOW}) {
            e.none("from " + cell, x, () -> x.meets(cell, 0, 0));
            e.none("to " + cell, x, () -> x.meets(0, cell, 0));
            e.none("from " + cell + ", one is not ON", x, () -> x.meets(cell, 0, 2));
        }
        for (int camps : new int[] {-1, 8, 10, 256, Edges.HIGH, Edges.LOW}) {
            e.none("CAMPS " + camps, x, () -> x.meets(0, 0, camps));
        }
        e.is("from the last CELL to the last", x.meets(11, 11, 0), 0);
        FieldKeepsCamps y = Due.with("33", "");
        e.is("none of none", y.meets(0, 0, 0), 0);
        e.none("one of none", y, () -> y.meets(0, 0, 1));
        FieldKeepsCamps z = Due.with("33", "001110;001110;001110;001110;001110;001110;001110;001110");
        e.is("eight of eight", z.meets(0, 0, 255), 0);
        e.none("nine of eight", z, () -> z.meets(0, 0, 256));
    }

    private void quiet() {
        e.of(29, "The fewest steps from a CELL to another one by CELLS over which no CAMP is ON (both ends aside): how many; the "
                + "ROW: CELLS in turn: of as short ways the least row.");
        FieldKeepsCamps x = Due.with("33", "012110");
        e.told("no step", x, x.quiet(0, 0), 0, 0);
        e.told("no step, where one sleeps", x, x.quiet(1, 1), 0, 1);
        e.told("to one where one sleeps", x, x.quiet(0, 1), 1, 0, 1);
        e.told("from one where one sleeps", x, x.quiet(4, 7), 1, 4, 7);
        e.told("both ends", x, x.quiet(1, 4), 1, 1, 4);
        e.told("round them", x, x.quiet(0, 2), 6, 0, 3, 6, 7, 8, 5, 2);
        e.told("round, from one end to another", x, x.quiet(1, 7), 4, 1, 0, 3, 6, 7);
        FieldKeepsCamps y = Due.with("33", "");
        e.told("of as short ways the least row", y, y.quiet(0, 8), 4, 0, 1, 2, 5, 8);
        e.told("of as short ways the least row, back", y, y.quiet(8, 0), 4, 8, 5, 2, 1, 0);
        e.of(29, "-2: there is none;");
        FieldKeepsCamps z = Due.with("33", "013110");
        e.answers("a wall", z, () -> z.quiet(0, 2), -2);
        e.told("to the wall", z, z.quiet(0, 7), 3, 0, 3, 6, 7);
        z.treads(0, 1);
        e.told("no wall any more", z, z.quiet(0, 2), 2, 0, 1, 2);
        z.sings(0, 1);
        e.answers("the wall is back, behind a question that went through it", z, () -> z.quiet(0, 2), -2);
        e.answers("the other way", z, () -> z.quiet(8, 6), -2);
        z.treads(0, 1);
        e.of(29, "NONE: others.");
        for (int cell : new int[] {-1, 9, 36, Edges.HIGH, Edges.LOW}) {
            e.none("from " + cell, z, () -> z.quiet(cell, 0));
            e.none("to " + cell, z, () -> z.quiet(0, cell));
            e.none("from and to " + cell, z, () -> z.quiet(cell, cell));
        }
        e.is("from the last CELL to the last", z.quiet(8, 8), 0);
    }

    private void soft() {
        e.of(30, "The way from a CELL to another one by which STRENGTH of all CAMPS over the CELLS of it (both ends, too) is the "
                + "least together: how much; the ROW: CELLS in turn: of as good ones the fewest CELLS, then the least row.");
        FieldKeepsCamps x = Due.with("33", "001120;221130;001110");
        e.told("both ends", x, x.soft(0, 8), 6, 0, 1, 2, 5, 8);
        e.told("one CELL counts once", x, x.soft(0, 0), 3, 0);
        e.told("one CELL of none", x, x.soft(4, 4), 0, 4);
        // by CELLS 1 and 4 it costs 1; round them nothing, by 7 CELLS
        FieldKeepsCamps y = Due.with("33", "012110");
        e.told("more CELLS, but less STRENGTH", y, y.soft(0, 2), 0, 0, 3, 6, 7, 8, 5, 2);
        Due.camps(y, "211110");
        e.told("as much STRENGTH, fewer CELLS", y, y.soft(0, 2), 1, 0, 1, 2);
        y.treads(1, 1);
        e.told("one that is not ON", y, y.soft(0, 2), 0, 0, 3, 6, 7, 8, 5, 2);
        FieldKeepsCamps z = Due.with("33", "003310");
        e.told("as many CELLS, the least row", z, z.soft(0, 8), 5, 0, 1, 2, 5, 8);
        FieldKeepsCamps w = Due.with("66", "003390;003390;033390;033390;303390;303390;333390;333390");
        e.told("the most", w, w.soft(35, 0), 11 * 18, 35, 29, 23, 17, 11, 5, 4, 3, 2, 1, 0);
        e.of(30, "NONE: others.");
        for (int cell : new int[] {-1, 9, 36, Edges.HIGH, Edges.LOW}) {
            e.none("from " + cell, z, () -> z.soft(cell, 0));
            e.none("to " + cell, z, () -> z.soft(0, cell));
        }
        e.is("from the last CELL to the last", z.soft(8, 8), 1);
    }

    private void seen() {
        e.of(31, "CAMPS (bits) seen from the wall at a ROW (left of COLUMN 0): those ON over some CELL of that ROW which has no "
                + "CELL to the left of it in that ROW with a CAMP of more STRENGTH; the ROW: how many.");
        FieldKeepsCamps x = Due.with("34", "001150;011140;021150;031160");
        e.told("less is hidden, as much and more is seen", x, x.seen(0), 13, 3);
        e.told("a ROW of none", x, x.seen(1), 0, 0);
        e.told("the last ROW", x, x.seen(2), 0, 0);
        x.treads(0, 1);
        e.told("as much as the one ahead of it", x, x.seen(0), 15, 4);
        x.treads(1, 4);
        e.told("one that is not ON is not seen", x, x.seen(0), 13, 3);
        x.treads(0, 4);
        e.told("one that is not ON hides none", x, x.seen(0), 12, 2);
        FieldKeepsCamps y = Due.with("35", "011190;011310;001310;021110");
        // 1 begins where 0 stands, 2 left of it, 3 right of it
        e.told("beside, left of and behind a stronger one", y, y.seen(0), 7, 3);
        FieldKeepsCamps z = Due.with("34", "101190;012110;011120");
        e.told("seen from one ROW", z, z.seen(0), 6, 2);
        e.told("hidden from another", z, z.seen(1), 1, 1);
        FieldKeepsCamps w = Due.with("66", "301110;311120;321130;331140;341150;351160;351160;351170");
        e.told("all eight, from less to more", w, w.seen(3), 255, 8);
        e.of(31, "NONE: none such.");
        for (int row : new int[] {-1, 3, 4, Edges.HIGH, Edges.LOW}) {
            e.none("seen(" + row + ") of 3", z, () -> z.seen(row));
        }
        e.is("seen(5) of 6", w.seen(5), 0);
        e.none("seen(6) of 6", w, () -> w.seen(6));
    }

    private void seats() {
        e.of(32, "The fewest ROWS from which together all CAMPS are seen that are seen from some: how many; the ROW: they (bits: "
                + "of as few the least), CAMPS that are ON and seen from none (bits).");
        FieldKeepsCamps x = Due.with("66", "");
        e.told("no CAMPS", x, x.seats(), 0, 0, 0);
        Due.camps(x, "001110;101110;201110;301110;401110;501110");
        e.told("all six ROWS", x, x.seats(), 6, 63, 0);
        x.treads(5, 1);
        e.told("all but the last", x, x.seats(), 5, 31, 0);
        x.sings(5, 1);
        x.treads(0, 1);
        e.told("all but the first", x, x.seats(), 5, 62, 0);
        x.sheet(3, 0, 0, 0);
        e.told("none is ON", x, x.seats(), 0, 0, 0);
        FieldKeepsCamps y = Due.with("44", "103110");
        e.told("of as few the least", y, y.seats(), 1, 2, 0);
        Due.camps(y, "202110");
        e.told("both from one ROW", y, y.seats(), 1, 4, 0);
        Due.camps(y, "001190");
        e.told("one more ROW", y, y.seats(), 2, 5, 0);
        Due.camps(y, "011110");
        e.told("one behind another", y, y.seats(), 2, 5, 8);
        y.treads(3, 1);
        e.told("one behind another that is not ON", y, y.seats(), 2, 5, 0);
        FieldKeepsCamps z = Due.with("44", "301190;311180");
        e.told("the last ROW", z, z.seats(), 1, 8, 2);
        // 0 is seen from ROWS 0 and 1, 1 from 1 and 2, 2 from 2 and 3: of 1 and 2, 1 and 3, 0 and 2 the least is 0 and 2
        FieldKeepsCamps w = Due.with("44", "002110;102110;202110");
        e.told("of pairs the least", w, w.seats(), 2, 5, 0);
    }
}
