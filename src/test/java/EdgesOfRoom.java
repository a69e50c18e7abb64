/** Boundary cases of promises 23 to 27: room for a new camp, and when, where it would cross the least, the largest. */
final class EdgesOfRoom {
    private static final int[] NO_SIDES = {-1, 0, 4, Edges.HIGH, Edges.LOW};
    private final Edges e;

    EdgesOfRoom(Edges e) {
        this.e = e;
    }

    void check() {
        room();
        when();
        least();
        largest();
        makes();
    }

    private void room() {
        e.of(23, "The first CELL on which a CAMP of HEIGHT by WIDTH (1 .. 3) could have its first one now, so that no CAMP that "
                + "is ON lies over a CELL of it: it; the ROW: on how many CELLS it could.");
        for (int h = 1; h <= 3; h++) {
            for (int w = 1; w <= 3; w++) {
                FieldKeepsCamps x = Due.with("36", "");
                e.told("room(" + h + ", " + w + ")", x, x.room(h, w), 0, (4 - h) * (7 - w));
            }
        }
        FieldKeepsCamps x = Due.with("36", "021310");
        e.told("below it", x, x.room(2, 3), 6, 4);
        e.told("left of it", x, x.room(3, 2), 0, 1);
        e.told("left of it, and below it", x, x.room(1, 1), 0, 15);
        Due.camps(x, "001110;011110;111110");
        e.told("right of it", x, x.room(1, 1), 5, 12);
        x.treads(1, 1);
        e.told("over one that is not ON", x, x.room(1, 1), 0, 13);
        FieldKeepsCamps y = Due.with("33", "003310");
        e.of(23, "-2: on none;");
        e.answers("all is slept in", y, () -> y.room(1, 1), -2);
        y.treads(0, 1);
        e.told("none is ON", y, y.room(3, 3), 0, 1);
        Due.camps(y, "221110");
        e.answers("but the last CELL", y, () -> y.room(3, 3), -2);
        e.told("two by three above it", y, y.room(2, 3), 0, 1);
        Due.camps(y, "001110;011110;021110;101110;111110;121110");
        e.told("the last but one, and the one ahead of it", y, y.room(1, 2), 6, 1);
        e.answers("not by two more", y, () -> y.room(1, 3), -2);
        e.of(23, "NONE: others.");
        for (int side : NO_SIDES) {
            e.none("room(" + side + ", 1)", y, () -> y.room(side, 1));
            e.none("room(1, " + side + ")", y, () -> y.room(1, side));
        }
    }

    private void when() {
        FieldKeepsCamps x = Due.with("33", "111190");
        e.of(24, "In how many YEARS (0: now .. 99) there is such room first, if nothing else is done: how many; the ROW: the "
                + "CELL.");
        e.told("now", x, x.when(1, 3), 0, 0);
        e.told("in 9", x, x.when(3, 3), 9, 0);
        Due.rule(x, "(a=97)*9");
        e.told("in 98", x, x.when(3, 3), 98, 0);
        Due.rule(x, "(a=98)*9");
        e.told("in 99", x, x.when(3, 3), 99, 0);
        e.is("nothing is done", x.count(4), 0);
        e.of(24, "-2: in none of these;");
        Due.rule(x, "(a=99)*9");
        e.answers("in 100", x, () -> x.when(3, 3), -2);
        Due.rule(x, "0");
        e.answers("never", x, () -> x.when(2, 2), -2);
        x.treads(0, 9);
        e.told("now, as it is not ON", x, x.when(2, 2), 0, 0);
        e.of(24, "NONE: others.");
        for (int side : NO_SIDES) {
            e.none("when(" + side + ", 1)", x, () -> x.when(side, 1));
            e.none("when(1, " + side + ")", x, () -> x.when(1, side));
        }
    }

    private void least() {
        FieldKeepsCamps x = Due.with("33", "");
        e.of(25, "The CELL on which such a CAMP in THE FIELD would lie over the least STRENGTH (of all CAMPS over each CELL of "
                + "it, added up; of like ones the first): it; the ROW: how much, CAMPS that it would lie over (bits).");
        e.told("none over nothing", x, x.least(1, 1), 0, 0, 0);
        Due.camps(x, "003320");
        e.told("all alike: the first", x, x.least(1, 1), 0, 2, 1);
        e.told("each CELL of it", x, x.least(2, 3), 0, 12, 1);
        e.told("the whole FIELD", x, x.least(3, 3), 0, 18, 1);
        Due.camps(x, "001110;022110");
        e.told("all CAMPS over a CELL", x, x.least(3, 3), 0, 21, 7);
        e.told("the first of those alike", x, x.least(2, 1), 1, 4, 1);
        e.told("less further on", x, x.least(2, 2), 3, 8, 1);
        x.treads(0, 2);
        e.told("over one that is not ON", x, x.least(3, 3), 0, 3, 6);
        FieldKeepsCamps y = Due.with("33", "001190;011190;021190;101190;111190;121190;201190;211190");
        e.told("the last CELL", y, y.least(1, 1), 8, 0, 0);
        e.told("the last by two", y, y.least(1, 2), 7, 9, 128);
        e.told("the last two by two", y, y.least(2, 2), 4, 27, 16 + 32 + 128);
        e.of(25, "-2: on none (it is greater than THE FIELD);");
        // none of at most three by three is greater than the least FIELD
        e.is("the greatest in the least FIELD", y.least(3, 3), 0);
        e.of(25, "NONE: others.");
        for (int side : NO_SIDES) {
            e.none("least(" + side + ", 1)", y, () -> y.least(side, 1));
            e.none("least(1, " + side + ")", y, () -> y.least(1, side));
        }
    }

    private void largest() {
        e.of(26, "How many CELLS the largest HEIGHT by WIDTH has over which no CAMP is ON (any from 1 to THE FIELD's own): how "
                + "many (0: none); the ROW: the first CELL, HEIGHT, WIDTH (of equal ones the least row; nothing without).");
        for (int r = 3; r <= 6; r++) {
            for (int c = 3; c <= 6; c++) {
                FieldKeepsCamps x = Due.with("" + r + c, "");
                e.told("all of " + r + " by " + c, x, x.largest(), r * c, 0, r, c);
            }
        }
        FieldKeepsCamps x = Due.with("33", "003310");
        x.slept();
        e.told("none", x, x.largest(), 0);
        x.treads(0, 1);
        e.told("all, as none is ON", x, x.largest(), 9, 0, 3, 3);
        FieldKeepsCamps y = Due.with("33", "001310;101310;201210");
        e.told("the last CELL alone", y, y.largest(), 1, 8, 1, 1);
        y.treads(2, 1);
        e.told("the last ROW", y, y.largest(), 3, 6, 1, 3);
        FieldKeepsCamps z = Due.with("33", "111110");
        e.told("ROWS and COLUMNS of three: 0 1 3", z, z.largest(), 3, 0, 1, 3);
        Due.camps(z, "011110");
        e.told("0 3 1 stands ahead of 2 3 1", z, z.largest(), 3, 0, 3, 1);
        Due.camps(z, "101110");
        e.told("2 3 1 stands ahead of 6 1 3", z, z.largest(), 3, 2, 3, 1);
        FieldKeepsCamps w = Due.with("66", "001110");
        e.told("30 from CELL 1 stand ahead of 30 from CELL 6", w, w.largest(), 30, 1, 6, 5);
        FieldKeepsCamps v = Due.with("66", "551110");
        e.told("30 from CELL 0: 5 by 6 ahead of 6 by 5", v, v.largest(), 30, 0, 5, 6);
    }

    private void makes() {
        FieldKeepsCamps x = Due.with("33", "001110;011110;021110;101110;111110;121110;201110;211110");
        e.of(27, "The fewest CAMPS to be taken away so that there is room for HEIGHT by WIDTH (1 .. 3): how many; the ROW: they "
                + "(bits: of as few the least).");
        e.told("none for one", x, x.makes(1, 1), 0, 0);
        e.told("one for two", x, x.makes(1, 2), 1, 128);
        e.told("one for two, one above the other", x, x.makes(2, 1), 1, 32);
        e.told("two for three", x, x.makes(1, 3), 2, 192);
        e.told("three for four", x, x.makes(2, 2), 3, 16 + 32 + 128);
        e.told("all eight for nine", x, x.makes(3, 3), 8, 255);
        x.treads(0, 1);
        e.told("one that is not ON stays", x, x.makes(3, 3), 7, 254);
        FieldKeepsCamps y = Due.with("33", "201310;101310;001310");
        e.told("of as few the least", y, y.makes(1, 1), 1, 1);
        e.told("of as few the least, of two", y, y.makes(2, 1), 2, 3);
        e.told("all three", y, y.makes(3, 1), 3, 7);
        FieldKeepsCamps w = Due.with("33", "001310;101310;201310");
        e.told("of as few the least, the first", w, w.makes(1, 1), 1, 1);
        e.told("of as few the least, the first two", w, w.makes(2, 1), 2, 3);
        FieldKeepsCamps v = Due.with("33", "101310;001310;201310");
        e.told("of as few the least, the one between", v, v.makes(1, 1), 1, 1);
        FieldKeepsCamps z = Due.with("33", "");
        e.told("no CAMPS", z, z.makes(3, 3), 0, 0);
        e.of(27, "-2: it is greater than THE FIELD;");
        // none of at most three by three is greater than the least FIELD
        e.is("the greatest in the least FIELD", y.makes(3, 3), 3);
        e.of(27, "NONE: others.");
        for (int side : NO_SIDES) {
            e.none("makes(" + side + ", 1)", y, () -> y.makes(side, 1));
            e.none("makes(1, " + side + ")", y, () -> y.makes(1, side));
        }
    }
}
