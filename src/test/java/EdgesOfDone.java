import java.util.Arrays;

/** Boundary cases of promises 10 to 16: years, what is done, stories, what is undone. */
final class EdgesOfDone {
    private static final String EIGHT = "001110;001110;001110;001110;001110;001110;001110;001110";
    private final Edges e;

    EdgesOfDone(Edges e) {
        this.e = e;
    }

    void check() {
        years();
        pitchNumbers();
        pitchRefused();
        pitchOrder();
        treads();
        sings();
        moves();
        storyReads();
        storyDone();
        storyStops();
        storyRefused();
        undoFifteen();
        undoDone();
        undoForgets();
    }

    private void years() {
        FieldKeepsCamps x = Due.with("44", "001110;111120;221190");
        e.of(10, "n YEARS (0 .. 60) go by: how many CAMPS are ON then;");
        Due.rule(x, "1");
        e.told("years(0)", x, x.years(0), 3, 0, 12);
        e.is("YEAR", x.count(4), 0);
        e.told("years(1)", x, x.years(1), 2, 1, 9);
        e.is("YEAR", x.count(4), 1);
        e.told("years(60)", x, x.years(60), 0, 2, 0);
        e.is("YEAR", x.count(4), 61);
        e.of(10, "the ROW: how many were LOST in these (LOST aside), STRENGTH of all together.");
        e.told("when none is ON", x, x.years(1), 0, 0, 0);
        FieldKeepsCamps y = Due.with("44", EIGHT);
        for (int i = 0; i < 124; i++) {
            y.sheet(2, 8, 1, 0);
            y.years(1);
        }
        y.sheet(2, 8, 1, 0);
        e.told("eight are LOST, when LOST is 992", y, y.years(1), 0, 8, 0);
        e.is("LOST", y.count(5), 999);
        y.sheet(2, 8, 3, 0);
        e.told("eight are LOST, when LOST is 999", y, y.years(2), 0, 8, 0);
        e.is("LOST", y.count(5), 999);
        e.of(10, "Refused: another n.");
        for (int n : new int[] {-1, 61, Edges.HIGH, Edges.LOW}) {
            e.none("years(" + n + ")", y, () -> y.years(n));
        }
    }

    private void pitchNumbers() {
        e.of(11, "A CAMP is pitched with its first CELL on a CELL, of HEIGHT by WIDTH, STRENGTH s (1 .. 9), SLIP p (0 .. 9), "
                + "AGE 0: its number.");
        FieldKeepsCamps x = Due.with("45", "");
        x.years(3);
        int[][] told = {{0, 1, 1, 1, 0}, {2, 3, 3, 9, 9}, {15, 1, 2, 5, 1}, {19, 1, 1, 1, 9}};
        for (int i = 0; i < told.length; i++) {
            int[] of = told[i];
            e.is("pitch() of camp " + i, x.pitch(of[0], of[1], of[2], of[3], of[4]), i);
            for (int what = 0; what < 5; what++) {
                e.is("camp(" + i + ", " + what + ")", x.camp(i, what), of[what]);
            }
            e.is("AGE of camp " + i, x.camp(i, 5), 0);
        }
        FieldKeepsCamps y = Due.with("45", "");
        e.none("STRENGTH 0", y, () -> y.pitch(0, 1, 1, 0, 0));
        Due.camps(y, "001190");
        y.years(3);
        Due.field(y, "45");
        e.is("where one was ahead of field()", y.pitch(0, 1, 1, 1, 0), 0);
        e.is("AGE", y.camp(0, 5), 0);
        y.undo();
        e.none("STRENGTH 10", y, () -> y.pitch(0, 1, 1, 10, 0));
        e.none("STRENGTH -1", y, () -> y.pitch(0, 1, 1, -1, 0));
        e.none("SLIP -1", y, () -> y.pitch(0, 1, 1, 1, -1));
        e.none("SLIP 10", y, () -> y.pitch(0, 1, 1, 1, 10));
    }

    private void pitchRefused() {
        FieldKeepsCamps x = Due.with("45", "");
        x.years(1);
        e.of(11, "-2: it would not be in THE FIELD;");
        e.answers("HEIGHT 2 from the last ROW", x, () -> x.pitch(15, 2, 1, 1, 0), -2);
        e.answers("HEIGHT 3 from the last ROW but one", x, () -> x.pitch(10, 3, 1, 1, 0), -2);
        e.answers("WIDTH 2 from the last COLUMN", x, () -> x.pitch(4, 1, 2, 1, 0), -2);
        e.answers("WIDTH 3 from the last COLUMN but one", x, () -> x.pitch(3, 1, 3, 1, 0), -2);
        e.is("HEIGHT 3 and WIDTH 3 into the last CELL", x.pitch(7, 3, 3, 1, 0), 0);
        e.of(11, "-3: there are 8;");
        FieldKeepsCamps y = Due.with("45", "001110;011110;021110;031110;041110;101110;111110");
        e.is("when there are 7", y.pitch(7, 1, 1, 1, 0), 7);
        e.answers("when there are 8", y, () -> y.pitch(8, 1, 1, 1, 0), -3);
        y.treads(7, 1);
        e.answers("when one of 8 is not ON", y, () -> y.pitch(8, 1, 1, 1, 0), -3);
        e.of(11, "-4: a CELL of it has a CAMP that is ON;");
        for (int cell = 0; cell < 20; cell++) {
            FieldKeepsCamps z = Due.with("45", "122210");
            int r = cell / 5;
            int c = cell % 5;
            boolean free = r + 2 <= 1 || r >= 3 || c + 2 <= 2 || c >= 4;
            int due = r + 2 > 4 || c + 2 > 5 ? -2 : free ? 1 : -4;
            e.is("two by two on " + cell, z.pitch(cell, 2, 2, 1, 0), due);
        }
        FieldKeepsCamps z = Due.with("45", "122210");
        z.treads(0, 1);
        e.is("over one that is not ON", z.pitch(7, 2, 2, 1, 0), 1);
    }

    private void pitchOrder() {
        e.of(11, "NONE: others (these in that order, NONE first).");
        FieldKeepsCamps x = Due.with("45", EIGHT);
        for (int cell : new int[] {-1, 20, 21, Edges.HIGH, Edges.LOW}) {
            e.none("CELL " + cell, x, () -> x.pitch(cell, 1, 1, 1, 0));
        }
        for (int side : new int[] {-1, 0, 4, Edges.HIGH, Edges.LOW}) {
            e.none("HEIGHT " + side + ", and it would not be in THE FIELD", x, () -> x.pitch(19, side, 2, 1, 0));
            e.none("WIDTH " + side + ", and it would not be in THE FIELD", x, () -> x.pitch(19, 2, side, 1, 0));
        }
        e.none("STRENGTH 0, and it would not be in THE FIELD", x, () -> x.pitch(19, 2, 2, 0, 0));
        e.none("SLIP 10, and it would not be in THE FIELD", x, () -> x.pitch(19, 2, 2, 1, 10));
        e.none("STRENGTH 0, there are 8, one is there", x, () -> x.pitch(0, 1, 1, 0, 0));
        e.answers("not in THE FIELD, and there are 8", x, () -> x.pitch(19, 2, 2, 1, 0), -2);
        e.answers("there are 8, and one is there", x, () -> x.pitch(0, 1, 1, 1, 0), -3);
        FieldKeepsCamps y = Due.with("45", "341110");
        e.answers("not in THE FIELD, and one is there", y, () -> y.pitch(19, 2, 1, 1, 0), -2);
        e.answers("one is there", y, () -> y.pitch(19, 1, 1, 1, 0), -4);
        e.is("none is there", y.pitch(18, 1, 1, 1, 0), 1);
    }

    private void treads() {
        e.of(12, "STRENGTH is n (1 .. 9) less (0 at least; LOST stays): STRENGTH.");
        for (int s = 1; s <= 9; s++) {
            for (int n = 1; n <= 9; n++) {
                FieldKeepsCamps x = Due.with("44", "0011" + s + "0");
                e.is("treads(0, " + n + ") of " + s, x.treads(0, n), Math.max(0, s - n));
                e.is("STRENGTH", x.camp(0, 3), Math.max(0, s - n));
                e.is("LOST", x.count(5), 0);
            }
        }
        FieldKeepsCamps y = Due.with("44", "001120;111120");
        e.of(12, "-2: it is not ON;");
        e.is("at STRENGTH 2", y.treads(0, 1), 1);
        e.is("at STRENGTH 1", y.treads(0, 1), 0);
        e.answers("at STRENGTH 0", y, () -> y.treads(0, 1), -2);
        e.of(12, "NONE: others.");
        for (int n : new int[] {-1, 0, 10, Edges.HIGH, Edges.LOW}) {
            e.none("treads(1, " + n + ")", y, () -> y.treads(1, n));
            e.none("treads(0, " + n + ") of one that is not ON", y, () -> y.treads(0, n));
        }
        for (int camp : new int[] {-1, 2, 8, Edges.HIGH, Edges.LOW}) {
            e.none("treads(" + camp + ", 1)", y, () -> y.treads(camp, 1));
        }
        e.is("the last one", y.treads(1, 1), 1);
    }

    private void sings() {
        FieldKeepsCamps x = Due.with("44", "001110;111110");
        e.of(13, "STRENGTH is n (1 .. 9) more (9 at most; one that is not ON comes ON by it): STRENGTH.");
        for (int s = 0; s <= 9; s++) {
            for (int n = 1; n <= 9; n++) {
                x.sheet(2, 2, s, 1);
                e.is("sings(0, " + n + ") to " + s, x.sings(0, n), Math.min(9, s + n));
                e.is("STRENGTH", x.camp(0, 3), Math.min(9, s + n));
                e.is("ON", x.count(3), 2);
            }
        }
        e.of(13, "NONE: others.");
        for (int n : new int[] {-1, 0, 10, Edges.HIGH, Edges.LOW}) {
            e.none("sings(0, " + n + ")", x, () -> x.sings(0, n));
        }
        for (int camp : new int[] {-1, 2, 8, Edges.HIGH, Edges.LOW}) {
            e.none("sings(" + camp + ", 1)", x, () -> x.sings(camp, 1));
        }
    }

    private void moves() {
        e.of(14, "A CAMP is moved a CELL: way 0 up, 1 right, 2 down, 3 left: its first CELL.");
        int[] by = {-5, 1, 5, -1};
        for (int way = 0; way < 4; way++) {
            FieldKeepsCamps x = Due.with("45", "112210;221110");
            e.is("way " + way, x.moves(0, way), 6 + by[way]);
            e.is("first CELL", x.camp(0, 0), 6 + by[way]);
            x.treads(0, 1);
            e.is("back, though it is not ON", x.moves(0, way ^ 2), 6);
        }
        e.of(14, "-2: it would not be in THE FIELD;");
        for (int r = 0; r < 4; r++) {
            for (int c = 0; c < 5; c++) {
                for (int h = 1; h <= Math.min(3, 4 - r); h++) {
                    for (int w = 1; w <= Math.min(3, 5 - c); w++) {
                        boolean[] out = {r == 0, c + w == 5, r + h == 4, c == 0};
                        for (int way = 0; way < 4; way++) {
                            FieldKeepsCamps x = Due.with("45", "" + r + c + h + w + "10");
                            int due = out[way] ? -2 : 5 * r + c + by[way];
                            e.is("way " + way + " of " + r + c + h + w, x.moves(0, way), due);
                            e.is("first CELL", x.camp(0, 0), out[way] ? 5 * r + c : due);
                        }
                    }
                }
            }
        }
        e.of(14, "NONE: others.");
        FieldKeepsCamps y = Due.with("45", "001110");
        for (int way : new int[] {-1, 4, Edges.HIGH, Edges.LOW}) {
            e.none("way " + way, y, () -> y.moves(0, way));
        }
        for (int camp : new int[] {-1, 1, 8, Edges.HIGH, Edges.LOW}) {
            e.none("moves(" + camp + ", 1)", y, () -> y.moves(camp, 1));
        }
    }

    private void storyReads() {
        FieldKeepsCamps x = Due.with("44", "001190");
        e.of(15, "THE TEXT tells A STORY (an empty one: nothing), signs one behind another: n and a digit (years()),");
        e.told("none", x, Due.story(x, ""), 0, 0, 0);
        e.is("what can be undone", x.count(9), 0);
        e.told("n0", x, Due.story(x, "n0"), 1, 0, 0);
        e.told("n9", x, Due.story(x, "n9"), 1, 0, 9);
        e.answers("n", x, () -> Due.story(x, "n"), -2);
        e.answers("n and no digit", x, () -> Due.story(x, "n:"), -2);
        e.answers("n and two digits", x, () -> Due.story(x, "n10"), -3);
        e.of(15, "p and six digits (pitch(): ROW, COLUMN, HEIGHT, WIDTH, STRENGTH, SLIP),");
        e.told("p", x, Due.story(x, "p132145"), 1, 0, 9);
        int[] due = {7, 2, 1, 4, 5, 0};
        for (int what = 0; what < due.length; what++) {
            e.is("camp(1, " + what + ")", x.camp(1, what), due[what]);
        }
        e.answers("p and five digits", x, () -> Due.story(x, "p13214"), -7);
        e.answers("p and seven digits", x, () -> Due.story(x, "p1321455"), -8);
        e.answers("p and no digit", x, () -> Due.story(x, "px"), -2);
        e.of(15, "t, a digit and a digit 1 .. 9 (treads()), s, likewise (sings()),");
        for (String act : new String[] {"t", "s"}) {
            e.answers(act, x, () -> Due.story(x, act), -2);
            e.answers(act + "1", x, () -> Due.story(x, act + "1"), -3);
            e.answers(act + "10", x, () -> Due.story(x, act + "10"), -3);
            e.answers(act + "1:", x, () -> Due.story(x, act + "1:"), -3);
            e.answers(act + "111", x, () -> Due.story(x, act + "111"), -4);
        }
        e.told("t11", x, Due.story(x, "t11"), 1, 0, 9);
        e.is("STRENGTH", x.camp(1, 3), 3);
        e.told("t19", x, Due.story(x, "t19"), 1, 0, 9);
        e.is("STRENGTH", x.camp(1, 3), 0);
        e.told("s11", x, Due.story(x, "s11"), 1, 0, 9);
        e.is("STRENGTH", x.camp(1, 3), 1);
        e.told("s19", x, Due.story(x, "s19"), 1, 0, 9);
        e.is("STRENGTH", x.camp(1, 3), 9);
        e.of(15, "m and two digits (moves()):");
        e.told("m10", x, Due.story(x, "m10"), 1, 0, 9);
        e.is("CELL", x.camp(1, 0), 3);
        e.told("m13", x, Due.story(x, "m13"), 1, 0, 9);
        e.is("CELL", x.camp(1, 0), 2);
        e.told("m14 can stand there", x, Due.story(x, "m14"), 0, 1, 9);
        e.told("m99 can stand there", x, Due.story(x, "m99"), 0, 1, 9);
        e.answers("m1", x, () -> Due.story(x, "m1"), -3);
        e.answers("m111", x, () -> Due.story(x, "m111"), -4);
    }

    private void storyDone() {
        e.of(15, "they are done one by one, till one is refused (it answers below 0;");
        FieldKeepsCamps x = Due.with("34", "");
        e.told("all are done", x, Due.story(x, "p001130n1t01s04m01"), 5, 0, 1);
        e.is("CELL", x.camp(0, 0), 1);
        e.is("STRENGTH", x.camp(0, 3), 5);
        e.told("the first is refused: -1", x, Due.story(x, "t11n1"), 0, 1, 1);
        e.told("the second is refused: -2", x, Due.story(x, "n1m00n1"), 1, 1, 2);
        e.told("the last is refused: -4", x, Due.story(x, "n1n1p001210"), 2, 1, 4);
        e.told("one that is not ON: -2", x, Due.story(x, "t09t01n1"), 1, 1, 4);
        e.told("what was refused in a story before can be", x, Due.story(x, "s01t01p011110"), 3, 0, 4);
        FieldKeepsCamps y = Due.with("34", EIGHT);
        e.told("there are 8: -3", y, Due.story(y, "n0p111110n0"), 1, 1, 0);
        e.told("CAMP 7", y, Due.story(y, "s71"), 1, 0, 0);
        e.told("CAMP 8", y, Due.story(y, "s81"), 0, 1, 0);
        e.told("CAMP 8 that is moved", y, Due.story(y, "m80"), 0, 1, 0);
    }

    private void storyStops() {
        e.of(15, "a CELL that is not there, too): how many were done;");
        FieldKeepsCamps x = Due.with("35", "");
        e.told("ROW 3", x, Due.story(x, "p301110"), 0, 1, 0);
        e.told("ROW 9", x, Due.story(x, "p901110"), 0, 1, 0);
        e.told("COLUMN 5", x, Due.story(x, "p051110"), 0, 1, 0);
        e.told("COLUMN 9", x, Due.story(x, "p091110"), 0, 1, 0);
        e.told("HEIGHT 0", x, Due.story(x, "p000110"), 0, 1, 0);
        e.told("HEIGHT 4", x, Due.story(x, "p004110"), 0, 1, 0);
        e.told("WIDTH 0", x, Due.story(x, "p001010"), 0, 1, 0);
        e.told("WIDTH 4", x, Due.story(x, "p001410"), 0, 1, 0);
        e.told("STRENGTH 0", x, Due.story(x, "p001100"), 0, 1, 0);
        e.told("beyond THE FIELD", x, Due.story(x, "p241210"), 0, 1, 0);
        e.is("CAMPS", x.count(2), 0);
        e.is("what can be undone", x.count(9), 0);
        e.told("ROW 2, COLUMN 4", x, Due.story(x, "p241110"), 1, 0, 0);
        e.is("CELL", x.camp(0, 0), 14);
        e.of(15, "the ROW: 1 if one was refused, else 0; YEAR then.");
        e.told("none was refused", x, Due.story(x, "n1n2"), 2, 0, 3);
        e.told("one was refused", x, Due.story(x, "n1t91n2"), 1, 1, 4);
    }

    private void storyRefused() {
        FieldKeepsCamps x = Due.with("44", "001190");
        x.years(1);
        e.of(15, "-1 - p: the sign at p can't stand there (its end, if it ends too early;");
        String[] bad = {"x", "N1", " ", "\u0000", "0", "n1x", "n1 ", "n1n", "n1t", "n1t0", "n1p00115", "n1m0", "n/", "n:",
            "n1p00x110", "\u00ee1"};
        int[] at = {0, 0, 0, 0, 0, 2, 2, 3, 3, 4, 8, 4, 1, 1, 5, 0};
        for (int i = 0; i < bad.length; i++) {
            String text = bad[i];
            e.answers("story() of " + text, x, () -> Due.story(x, text), -1 - at[i]);
            e.is("signs", x.count(11), 0);
        }
        e.of(15, "60, if it has more and the first 60 could go on or end);");
        String sixty = "n0".repeat(30);
        String goesOn = "n0".repeat(29) + "p0";
        String[] over = {sixty + "n", sixty + "x", sixty + "n0", sixty + "n0".repeat(10), goesOn + "01110",
            goesOn + "x", "n0".repeat(28) + "t11n0", "t11".repeat(20) + "t", "n0".repeat(29) + "t1" + "0"};
        for (String text : over) {
            e.answers("story() of " + text, x, () -> Due.story(x, text), -61);
        }
        e.answers("60 signs that end too early", x, () -> Due.story(x, goesOn), -61);
        e.answers("the 60th can't stand", x, () -> Due.story(x, sixty.substring(0, 59) + "x" + "n0"), -60);
        e.answers("the 59th can't stand", x, () -> Due.story(x, sixty.substring(0, 58) + "x0" + "n0"), -59);
        e.told("60 signs", x, Due.story(x, sixty), 30, 0, 1);
        e.told("60 signs of twenty acts", x, Due.story(x, "s01".repeat(20)), 20, 0, 1);
        x.undo();
        x.undo();
        e.of(15, "nothing is done then.");
        e.answers("a fault behind an act", x, () -> Due.story(x, "n1t01x"), -6);
        e.answers("an act that ends too early behind an act", x, () -> Due.story(x, "n1t0"), -5);
        e.told("without it", x, Due.story(x, "n1t01"), 2, 0, 2);
    }

    private void undoFifteen() {
        e.of(16, "The latest years(), pitch(), treads(), sings(), moves() or story() (of 15 that are kept, the latest ones;");
        for (int acts = 13; acts <= 32; acts++) {
            FieldKeepsCamps x = new FieldKeepsCamps();
            for (int i = 1; i <= acts; i++) {
                x.years(1);
            }
            int many = Math.min(15, acts);
            e.is("what can be undone of " + acts, x.count(9), many);
            for (int left = many - 1; left >= 0; left--) {
                e.is("undo() of " + acts, x.undo(), left);
            }
            e.is("YEAR ahead of the first that was kept of " + acts, x.count(4), acts - many);
            e.none("undo() once more", x, x::undo);
        }
        e.of(16, "is undone (all CAMPS, how many there are, YEAR, LOST are as ahead of it): how many are left that can be.");
        FieldKeepsCamps x = Due.with("44", "001111;331150");
        Due.Call[] acts = {() -> x.years(1), () -> x.pitch(8, 1, 1, 4, 0), () -> x.sings(0, 3), () -> x.treads(1, 2),
            () -> x.moves(2, 1), () -> Due.story(x, "n1p101110"), () -> x.moves(0, 2), () -> x.treads(2, 1),
            () -> x.sings(1, 1), () -> x.years(3), () -> Due.story(x, "s13t11t11"), () -> x.years(0)};
        long[][] ahead = new long[acts.length][];
        for (int i = 0; i < acts.length; i++) {
            ahead[i] = Edges.camps(x);
            e.is("act " + i + " is done", acts[i].answer() >= 0, true);
            e.is("what can be undone", x.count(9), i + 1);
        }
        for (int i = acts.length - 1; i >= 0; i--) {
            e.is("undo() of act " + i, x.undo(), i);
            e.is("all is as ahead of act " + i, Arrays.equals(Edges.camps(x), ahead[i]), true);
        }
        e.of(16, "Refused: none.");
        e.none("undo() of none", x, x::undo);
        x.years(0);
        e.is("undo() of one", x.undo(), 0);
        e.none("undo() of none", x, x::undo);
    }

    private void undoDone() {
        e.of(16, "such as were done; story() of which one act was done, as one)");
        FieldKeepsCamps x = Due.with("44", "001190");
        x.years(61);
        x.pitch(0, 1, 1, 1, 0);
        x.pitch(15, 2, 2, 1, 0);
        x.treads(0, 0);
        x.sings(1, 1);
        x.moves(0, 0);
        x.moves(0, 4);
        Due.story(x, "");
        Due.story(x, "t11");
        Due.story(x, "t01x");
        e.is("of acts that were refused, none can be undone", x.count(9), 0);
        x.years(0);
        e.is("years(0) was done", x.count(9), 1);
        x.sings(0, 1);
        e.is("sings() to 9 was done", x.count(9), 2);
        Due.story(x, "n0t91");
        e.is("a story of which one act was done", x.count(9), 3);
        Due.story(x, "n1n1n1");
        e.is("a story of three acts", x.count(9), 4);
        e.is("undo() of it", x.undo(), 3);
        e.is("YEAR", x.count(4), 0);
        x.treads(0, 9);
        e.is("treads() to 0 was done", x.count(9), 4);
        x.treads(0, 9);
        e.is("treads() of one that is not ON was not", x.count(9), 4);
        x.sheet(2, 1, 5, 0);
        x.marked(0, 1, 1);
        x.heard(0, 1);
        Due.rule(x, "3");
        x.keep(0);
        x.drawn(1, 60);
        e.is("other calls can't be undone", x.count(9), 4);
    }

    private void undoForgets() {
        e.of(16, "(field(), camps() and again() forget them, if they are not refused; an empty camps() does not.)");
        FieldKeepsCamps x = Due.with("44", "001190");
        x.years(1);
        Due.field(x, "4");
        e.is("a field() that was refused", x.count(9), 1);
        Due.camps(x, "00111");
        e.is("a camps() that was refused", x.count(9), 1);
        x.again(0);
        e.is("an again() that was refused", x.count(9), 1);
        Due.camps(x, "");
        e.is("an empty camps()", x.count(9), 1);
        x.keep(0);
        e.is("keep()", x.count(9), 1);
        x.again(0);
        e.is("again()", x.count(9), 0);
        e.none("undo() behind again()", x, x::undo);
        e.is("YEAR stays", x.count(4), 1);
        x.years(1);
        Due.camps(x, "331110");
        e.is("camps()", x.count(9), 0);
        e.none("undo() behind camps()", x, x::undo);
        x.years(1);
        Due.field(x, "44");
        e.is("field()", x.count(9), 0);
        e.none("undo() behind field()", x, x::undo);
    }
}
