/** Boundary cases of promises 17 to 22: what is on where, who crosses whom, where a camp lies later, when it is gone. */
final class EdgesOfWhere {
    private final Edges e;

    EdgesOfWhere(Edges e) {
        this.e = e;
    }

    void check() {
        slept();
        crosses();
        heap();
        gone();
        lies();
        clears();
    }

    private void slept() {
        e.of(17, "CELLS (bits) over which some CAMP is ON; the ROW: how many, the most CAMPS over one CELL, the first such CELL "
                + "(NONE without).");
        FieldKeepsCamps x = Due.with("66", "");
        e.told("no CAMPS", x, x.slept(), 0, 0, 0, -1);
        Due.camps(x, "551110");
        e.told("the last CELL alone", x, x.slept(), 1L << 35, 1, 1, 35);
        Due.camps(x, "001110");
        e.told("the first and the last", x, x.slept(), 1L << 35 | 1, 2, 1, 0);
        Due.camps(x, "551110");
        e.told("two over the last", x, x.slept(), 1L << 35 | 1, 2, 2, 35);
        x.sheet(3, 0, 0, 0);
        e.told("none is ON", x, x.slept(), 0, 0, 0, -1);
        FieldKeepsCamps y = Due.with("33", "003310;003310;003310;003310;003310;003310;003310;003310");
        e.told("all eight over all CELLS", y, y.slept(), 511, 9, 8, 0);
        Due.field(y, "66");
        Due.camps(y, "003310;033310;303310;333310");
        e.told("all CELLS of the greatest FIELD", y, y.slept(), (1L << 36) - 1, 36, 1, 0);
        y.treads(0, 1);
        e.told("without its first ones", y, y.slept(), (1L << 36) - 1 - 7 - (7L << 6) - (7L << 12), 27, 1, 3);
    }

    private void crosses() {
        e.of(18, "Pairs of CAMPS that CROSS: how many; the ROW: how many CELLS have two or more CAMPS, then the first pair (the "
                + "least row; nothing more without).");
        FieldKeepsCamps x = Due.with("44", "");
        e.told("no CAMPS", x, x.crosses(), 0, 0);
        Due.camps(x, "002210");
        e.told("one CAMP", x, x.crosses(), 0, 0);
        Due.camps(x, "022210;202210");
        e.told("three beside each other", x, x.crosses(), 0, 0);
        Due.camps(x, "111110");
        e.told("one over the first", x, x.crosses(), 1, 1, 0, 3);
        Due.camps(x, "121110");
        e.told("one over the second", x, x.crosses(), 2, 2, 0, 3);
        x.treads(3, 1);
        e.told("the first pair is not ON", x, x.crosses(), 1, 1, 1, 4);
        x.treads(4, 1);
        e.told("none is ON", x, x.crosses(), 0, 0);
        FieldKeepsCamps y = Due.with("33", "003310;003310;003310;003310;003310;003310;003310;003310");
        e.told("all eight", y, y.crosses(), 28, 9, 0, 1);
        y.sheet(2, 8, 0, 0);
        y.sings(6, 1);
        e.told("one of them is ON", y, y.crosses(), 0, 0);
        y.sings(7, 1);
        e.told("the last two are ON", y, y.crosses(), 1, 9, 6, 7);
        FieldKeepsCamps z = Due.with("33", "001110;221110;221110;001110");
        e.told("of pairs 0 3 and 1 2", z, z.crosses(), 2, 2, 0, 3);
    }

    private void heap() {
        FieldKeepsCamps x = Due.with("66", "001110;001210;011210;021210;031210;041210;051110;101110");
        e.of(19, "CAMPS (bits) that hang together with one that is ON (it CROSSES one of them, or one that does, and so on), it "
                + "too; the ROW: how many, CELLS over which these lie (bits).");
        e.told("seven in a chain, from the first", x, x.heap(0), 127, 7, 63);
        e.told("from the last", x, x.heap(6), 127, 7, 63);
        e.told("from one between", x, x.heap(3), 127, 7, 63);
        e.told("one beside, alone", x, x.heap(7), 128, 1, 64);
        x.treads(3, 1);
        e.told("the chain is cut", x, x.heap(0), 7, 3, 7);
        e.told("the other part", x, x.heap(6), 112, 3, 56);
        FieldKeepsCamps w = Due.with("66", "051110;041210;031210;021210;011210;001210;551110;551110");
        e.told("a chain that goes down", w, w.heap(0), 63, 6, 63);
        e.told("on the last CELL", w, w.heap(7), 192, 2, 1L << 35);
        e.of(19, "-2: it is not ON;");
        e.answers("STRENGTH 0", x, () -> x.heap(3), -2);
        x.sings(3, 1);
        e.told("STRENGTH 1", x, x.heap(3), 127, 7, 63);
        e.of(19, "NONE: none such.");
        for (int camp : new int[] {-1, 8, 9, Edges.HIGH, Edges.LOW}) {
            e.none("heap(" + camp + ")", x, () -> x.heap(camp));
        }
        FieldKeepsCamps y = Due.with("44", "001110");
        e.none("heap(1) of one", y, () -> y.heap(1));
    }

    private void gone() {
        e.of(20, "In how many YEARS (0: now .. 99) a CAMP is not ON first, if nothing else is done: how many; the ROW: its first "
                + "CELL then.");
        FieldKeepsCamps x = Due.with("34", "101111;201190");
        e.told("in one YEAR, one COLUMN on", x, x.gone(0), 1, 5);
        x.treads(0, 1);
        e.told("now, where it is", x, x.gone(0), 0, 4);
        Due.rule(x, "(a=97)*9");
        e.told("in 98", x, x.gone(1), 98, 8);
        Due.rule(x, "(a=98)*9");
        e.told("in 99", x, x.gone(1), 99, 8);
        e.is("nothing is done", x.count(4), 0);
        e.of(20, "-2: in none of these;");
        Due.rule(x, "(a=99)*9");
        e.answers("in 100", x, () -> x.gone(1), -2);
        Due.rule(x, "0");
        e.answers("never", x, () -> x.gone(1), -2);
        e.of(20, "NONE: none such.");
        for (int camp : new int[] {-1, 2, 8, Edges.HIGH, Edges.LOW}) {
            e.none("gone(" + camp + ")", x, () -> x.gone(camp));
        }
    }

    private void lies() {
        e.of(21, "The first CELL of a CAMP in n YEARS (0 .. 99), if nothing else is done; the ROW: STRENGTH then, CAMPS that are "
                + "ON then (bits).");
        FieldKeepsCamps x = Due.with("34", "101121;201190");
        e.told("now", x, x.lies(0, 0), 4, 2, 3);
        e.told("in 1", x, x.lies(0, 1), 5, 1, 3);
        e.told("in 2: it is not ON", x, x.lies(0, 2), 6, 0, 2);
        e.told("in 3: it stays", x, x.lies(0, 3), 6, 0, 2);
        e.told("in 8", x, x.lies(1, 8), 8, 1, 2);
        e.told("in 9", x, x.lies(1, 9), 8, 0, 0);
        Due.rule(x, "(a=98)");
        e.told("in 98", x, x.lies(1, 98), 8, 9, 3);
        e.told("in 99", x, x.lies(1, 99), 8, 8, 3);
        e.told("in 99, with SLIP 1", x, x.lies(0, 99), 4 + 99 % 4, 1, 3);
        e.is("nothing is done", x.count(4), 0);
        e.of(21, "NONE: others.");
        for (int n : new int[] {-1, 100, Edges.HIGH, Edges.LOW}) {
            e.none("lies(0, " + n + ")", x, () -> x.lies(0, n));
        }
        for (int camp : new int[] {-1, 2, 8, Edges.HIGH, Edges.LOW}) {
            e.none("lies(" + camp + ", 0)", x, () -> x.lies(camp, 0));
        }
    }

    private void clears() {
        FieldKeepsCamps x = Due.with("34", "101111;201190");
        e.of(22, "In how many YEARS (0: now .. 99) no CAMP is ON over a CELL first, if nothing else is done: how many; the ROW: "
                + "in how many of 100 YEARS (0 .. 99) some is.");
        e.told("now: nothing was there", x, x.clears(0), 0, 0);
        e.told("in 1", x, x.clears(4), 1, 1);
        e.told("in 9", x, x.clears(8), 9, 9);
        Due.rule(x, "(a=98)*9");
        e.told("in 99", x, x.clears(8), 99, 99);
        // SLIP 1 by four COLUMNS: on CELL 4 in 0, 4, .. 96, on CELL 7 in 3, .. 95; it is gone in 99
        e.told("it comes again: 25 of 100", x, x.clears(4), 1, 25);
        e.told("it comes later: 24 of 100", x, x.clears(7), 0, 24);
        Due.rule(x, "0");
        e.told("it comes in 99, too", x, x.clears(7), 0, 25);
        e.told("none comes", x, x.clears(3), 0, 0);
        e.of(22, "-2: in none of these;");
        Due.rule(x, "(a=99)*9");
        e.answers("in 100", x, () -> x.clears(8), -2);
        Due.rule(x, "0");
        e.answers("never", x, () -> x.clears(8), -2);
        x.treads(1, 9);
        e.told("now: it is not ON", x, x.clears(8), 0, 0);
        e.of(22, "NONE: none such.");
        for (int cell : new int[] {-1, 12, 36, Edges.HIGH, Edges.LOW}) {
            e.none("clears(" + cell + ")", x, () -> x.clears(cell));
        }
        e.is("the last CELL", x.clears(11), 0);
    }
}
