/** Promises 10 to 16: years, what is done, stories, what is undone. */
final class DoneTest {
    private static final Due DUE = new Due("done");

    public static void main(String[] args) {
        yearsGoBy();
        slips();
        crossingAhead();
        caps();
        pitched();
        trodden();
        sungTo();
        moved();
        stories();
        storiesRefused();
        storiesThatStop();
        undone();
        fifteen();
        notUndone();
        DUE.finish();
    }

    private static void yearsGoBy() {
        FieldKeepsCamps x = Due.with("44", "001130;331150");
        DUE.told("years(0)", x, x.years(0), 2, 0, 8);
        DUE.told("years(2)", x, x.years(2), 2, 0, 4);
        DUE.told("years(1)", x, x.years(1), 1, 1, 2);
        DUE.is("LOST", x.count(5), 1);
        DUE.is("YEAR", x.count(4), 3);
        DUE.is("AGE of one that was ON", x.camp(0, 5), 3);
        DUE.told("years(3)", x, x.years(3), 0, 1, 0);
        DUE.is("AGE of one that was not ON stays", x.camp(0, 5), 3);
        DUE.is("AGE of the other", x.camp(1, 5), 5);
        int[] wrong = {-1, 61, Integer.MIN_VALUE, Integer.MAX_VALUE};
        for (int n : wrong) {
            DUE.told("years(" + n + ")", x, x.years(n), -1, 1, 0);
        }
        DUE.is("YEAR", x.count(4), 6);
        DUE.told("years(60)", x, x.years(60), 0, 0, 0);
        DUE.is("YEAR", x.count(4), 66);
        DUE.is("undoable", x.count(9), 5);
    }

    private static void slips() {
        FieldKeepsCamps x = Due.with("34", "001291;111292;201293;021190");
        Due.rule(x, "0");
        int[][] at = {{0, 5, 8, 2}, {1, 5, 8, 2}, {2, 6, 8, 2}, {0, 6, 9, 2}, {1, 4, 9, 2}, {2, 4, 9, 2}, {0, 5, 10, 2}};
        for (int year = 0; year < at.length; year++) {
            for (int camp = 0; camp < 4; camp++) {
                DUE.is("CELL of " + camp + " in " + year, x.camp(camp, 0), at[year][camp]);
            }
            x.years(1);
        }
        FieldKeepsCamps y = Due.with("33", "003391;001110");
        Due.rule(y, "0");
        y.years(1);
        DUE.is("one as wide as the field", y.camp(0, 0), 0);
        // one that is lost goes on in that year, and no more then
        FieldKeepsCamps z = Due.with("33", "001111");
        z.years(1);
        DUE.is("CELL of one that is lost", z.camp(0, 0), 1);
        z.years(4);
        DUE.is("CELL of one that is not ON", z.camp(0, 0), 1);
        DUE.is("AGE of one that is not ON", z.camp(0, 5), 1);
    }

    private static void crossingAhead() {
        // three camps on one cell: each loses 2 by what is ahead of the year, though two of them are gone by it
        FieldKeepsCamps x = Due.with("33", "001120;001120;001190");
        DUE.told("years(1)", x, x.years(1), 1, 2, 7);
        DUE.told("years(1)", x, x.years(1), 1, 0, 6);
        // the year ahead counts in n
        FieldKeepsCamps y = Due.with("33", "001190");
        Due.rule(y, "n");
        DUE.told("years(3)", y, y.years(3), 1, 0, 6);
    }

    private static void caps() {
        FieldKeepsCamps x = Due.with("44", "001199;111197");
        Due.rule(x, "0");
        x.years(60);
        x.years(38);
        DUE.is("AGE", x.camp(0, 5), 98);
        // AGE 99 stays and is a number of times 9: it goes on each year
        int before = x.camp(0, 0);
        DUE.is("CELL in 98", before, 98 / 9 % 4);
        for (int i = 0; i < 4; i++) {
            x.years(1);
            DUE.is("AGE", x.camp(0, 5), 99);
            DUE.is("CELL", x.camp(0, 0), (before + 1 + i) % 4);
        }
        DUE.is("SLIP 7 stays at AGE 99", x.camp(1, 0), 4 + (1 + 98 / 7) % 4);
        FieldKeepsCamps y = Due.with("33", "001110;001110;001110;001110;001110;001110;001110;001110");
        for (int i = 0; i < 130; i++) {
            DUE.told("years(1)", y, y.years(1), 0, 8, 0);
            DUE.is("LOST", y.count(5), Math.min(999, 8 * (i + 1)));
            y.sheet(2, 8, 1, 0);
        }
    }

    private static void pitched() {
        FieldKeepsCamps x = Due.with("45", "");
        int[][] none = {{-1, 1, 1, 1, 0}, {20, 1, 1, 1, 0}, {0, 0, 1, 1, 0}, {0, 4, 1, 1, 0}, {0, 1, 0, 1, 0},
            {0, 1, 4, 1, 0}, {0, 1, 1, 0, 0}, {0, 1, 1, 10, 0}, {0, 1, 1, 1, -1}, {0, 1, 1, 1, 10},
            {19, 3, 3, 10, 0}, {Integer.MAX_VALUE, 1, 1, 1, 0}, {Integer.MIN_VALUE, 1, 1, 1, 0}};
        for (int[] of : none) {
            DUE.is("pitch", x.pitch(of[0], of[1], of[2], of[3], of[4]), -1);
        }
        DUE.is("below the field", x.pitch(15, 2, 1, 1, 0), -2);
        DUE.is("right of the field", x.pitch(4, 1, 2, 1, 0), -2);
        DUE.is("pitch", x.pitch(6, 3, 3, 9, 9), 0);
        int[] of = {6, 3, 3, 9, 9, 0};
        for (int what = 0; what < of.length; what++) {
            DUE.is("camp(0, " + what + ")", x.camp(0, what), of[what]);
        }
        DUE.is("over one that is ON", x.pitch(0, 2, 2, 1, 0), -4);
        DUE.is("beside it", x.pitch(0, 1, 3, 1, 0), 1);
        x.treads(0, 9);
        DUE.is("over one that is not ON", x.pitch(7, 1, 1, 1, 0), 2);
        for (int i = 3; i < 8; i++) {
            DUE.is("pitch", x.pitch(7 + i, 1, 1, 1, 0), i);
        }
        DUE.is("a ninth", x.pitch(19, 1, 1, 1, 0), -3);
        DUE.is("a ninth over one", x.pitch(7, 1, 1, 1, 0), -3);
        DUE.is("a ninth beyond the field", x.pitch(19, 1, 2, 1, 0), -2);
        DUE.is("a ninth of none", x.pitch(19, 1, 2, 0, 0), -1);
        DUE.is("undoable", x.count(9), 9);
        DUE.is("the ROW", x.count(10), 0);
    }

    private static void trodden() {
        FieldKeepsCamps x = Due.with("44", "001150");
        DUE.is("treads(0, 2)", x.treads(0, 2), 3);
        DUE.is("treads(0, 0)", x.treads(0, 0), -1);
        DUE.is("treads(0, 10)", x.treads(0, 10), -1);
        DUE.is("treads(1, 1)", x.treads(1, 1), -1);
        DUE.is("treads(-1, 1)", x.treads(-1, 1), -1);
        DUE.is("treads(0, 9)", x.treads(0, 9), 0);
        DUE.is("LOST stays", x.count(5), 0);
        DUE.is("treads(0, 1)", x.treads(0, 1), -2);
        DUE.is("treads(0, 0)", x.treads(0, 0), -1);
        DUE.is("undoable", x.count(9), 2);
    }

    private static void sungTo() {
        FieldKeepsCamps x = Due.with("44", "001150");
        DUE.is("sings(0, 2)", x.sings(0, 2), 7);
        DUE.is("sings(0, 9)", x.sings(0, 9), 9);
        DUE.is("sings(0, 0)", x.sings(0, 0), -1);
        DUE.is("sings(0, 10)", x.sings(0, 10), -1);
        DUE.is("sings(1, 1)", x.sings(1, 1), -1);
        DUE.is("sings(-1, 1)", x.sings(-1, 1), -1);
        x.treads(0, 9);
        DUE.is("one that is not ON", x.sings(0, 4), 4);
        DUE.is("ON", x.count(3), 1);
        DUE.is("undoable", x.count(9), 4);
    }

    private static void moved() {
        FieldKeepsCamps x = Due.with("45", "112350");
        DUE.is("up", x.moves(0, 0), 1);
        DUE.is("up again", x.moves(0, 0), -2);
        DUE.is("right", x.moves(0, 1), 2);
        DUE.is("right again", x.moves(0, 1), -2);
        DUE.is("down", x.moves(0, 2), 7);
        DUE.is("down again", x.moves(0, 2), 12);
        DUE.is("down once more", x.moves(0, 2), -2);
        DUE.is("left", x.moves(0, 3), 11);
        DUE.is("left again", x.moves(0, 3), 10);
        DUE.is("left once more", x.moves(0, 3), -2);
        DUE.is("another way", x.moves(0, 4), -1);
        DUE.is("another way", x.moves(0, -1), -1);
        DUE.is("another camp", x.moves(1, 0), -1);
        DUE.is("another camp", x.moves(-1, 0), -1);
        DUE.is("undoable", x.count(9), 6);
        x.treads(0, 9);
        DUE.is("one that is not ON", x.moves(0, 0), 5);
        Due.camps(x, "001110");
        DUE.is("over another", x.moves(1, 2), 5);
    }

    private static void stories() {
        FieldKeepsCamps x = new FieldKeepsCamps();
        DUE.told("story() of none", x, Due.story(x, ""), 0, 0, 0);
        DUE.is("undoable", x.count(9), 0);
        DUE.told("story()", x, Due.story(x, "p002252n2p331190t11s12m13"), 6, 0, 2);
        DUE.is("undoable", x.count(9), 1);
        DUE.is("CELL of 0", x.camp(0, 0), 1);
        DUE.is("STRENGTH of 0", x.camp(0, 3), 3);
        DUE.is("CELL of 1", x.camp(1, 0), 14);
        DUE.is("STRENGTH of 1", x.camp(1, 3), 9);
        DUE.is("THE TEXT", x.count(11), 0);
        DUE.is("undo()", x.undo(), 0);
        DUE.is("CAMPS", x.count(2), 0);
        DUE.is("YEAR", x.count(4), 0);
        DUE.told("a story of sixty", x, Due.story(x, "n0".repeat(30)), 30, 0, 0);
        DUE.is("undoable", x.count(9), 1);
        DUE.told("n9", x, Due.story(x, "n9"), 1, 0, 9);
    }

    private static void storiesRefused() {
        String[] bad = {"x", "n", "nx", "n1x", "n12", "p", "p00115", "p00115x", "p0011500", "t", "t0", "t00", "t0n",
            "s", "s00", "s0", "m", "m0", "m0x", "n1n", "N1", "n1 ", "p:", "m00t",
            "n1".repeat(30) + "n", "n1".repeat(30) + "n1", "n1".repeat(29) + "x0n1", "n1".repeat(29) + "nxn1",
            "n1".repeat(29) + "p000000"};
        int[] at = {0, 1, 1, 2, 2, 1, 6, 6, 7, 1, 2, 2, 2,
            1, 2, 2, 1, 2, 2, 3, 0, 2, 1, 4,
            60, 60, 58, 59,
            60};
        FieldKeepsCamps x = Due.with("44", "001190");
        x.years(1);
        for (int i = 0; i < bad.length; i++) {
            DUE.told("story() of " + bad[i], x, Due.story(x, bad[i]), -1 - at[i], 0, 8);
            DUE.is("YEAR", x.count(4), 1);
            DUE.is("THE TEXT", x.count(11), 0);
        }
        DUE.is("undoable", x.count(9), 1);
    }

    private static void storiesThatStop() {
        FieldKeepsCamps x = Due.with("34", "");
        DUE.told("a row that is not there", x, Due.story(x, "p301110"), 0, 1, 0);
        DUE.told("a column that is not there", x, Due.story(x, "n1p041110n1"), 1, 1, 1);
        DUE.told("a height of 0", x, Due.story(x, "p000110"), 0, 1, 1);
        DUE.told("a strength of 0", x, Due.story(x, "p001100"), 0, 1, 1);
        DUE.told("beyond the field", x, Due.story(x, "p003110p202110"), 1, 1, 1);
        DUE.told("over another", x, Due.story(x, "p101110"), 0, 1, 1);
        DUE.told("no such camp", x, Due.story(x, "t11"), 0, 1, 1);
        DUE.told("not ON", x, Due.story(x, "t01t01n5"), 1, 1, 1);
        DUE.told("no such way", x, Due.story(x, "s01m04"), 1, 1, 1);
        DUE.told("out of the field", x, Due.story(x, "m01m00"), 1, 1, 1);
        DUE.told("no such camp to sing to", x, Due.story(x, "n0s91"), 1, 1, 1);
        DUE.is("undoable", x.count(9), 6);
        DUE.is("CAMPS", x.count(2), 1);
        DUE.is("CELL", x.camp(0, 0), 1);
    }

    private static void undone() {
        FieldKeepsCamps x = Due.with("44", "001131");
        DUE.is("undo() of none", x.undo(), -1);
        x.years(2);
        x.years(2);
        DUE.is("LOST", x.count(5), 1);
        x.pitch(15, 1, 1, 5, 0);
        x.sings(0, 5);
        x.moves(0, 2);
        x.treads(1, 1);
        DUE.is("undoable", x.count(9), 6);
        DUE.is("undo treads", x.undo(), 5);
        DUE.is("STRENGTH", x.camp(1, 3), 5);
        DUE.is("undo moves", x.undo(), 4);
        DUE.is("CELL", x.camp(0, 0), 3);
        DUE.is("undo sings", x.undo(), 3);
        DUE.is("STRENGTH", x.camp(0, 3), 0);
        DUE.is("undo pitch", x.undo(), 2);
        DUE.is("CAMPS", x.count(2), 1);
        DUE.is("undo years", x.undo(), 1);
        DUE.is("LOST", x.count(5), 0);
        DUE.is("YEAR", x.count(4), 2);
        DUE.is("STRENGTH", x.camp(0, 3), 1);
        DUE.is("AGE", x.camp(0, 5), 2);
        DUE.is("CELL", x.camp(0, 0), 2);
        DUE.is("undo years", x.undo(), 0);
        DUE.is("YEAR", x.count(4), 0);
        DUE.is("undo() of none", x.undo(), -1);
    }

    private static void fifteen() {
        FieldKeepsCamps x = new FieldKeepsCamps();
        for (int i = 1; i <= 20; i++) {
            x.years(1);
            DUE.is("undoable", x.count(9), Math.min(15, i));
        }
        DUE.is("a story of which none was done", Due.story(x, "t01"), 0);
        DUE.is("undoable", x.count(9), 15);
        for (int i = 14; i >= 0; i--) {
            DUE.is("undo()", x.undo(), i);
            DUE.is("YEAR", x.count(4), 5 + i);
        }
        DUE.is("undo()", x.undo(), -1);
        DUE.is("YEAR", x.count(4), 5);
        x.years(3);
        DUE.is("undo()", x.undo(), 0);
        DUE.is("YEAR", x.count(4), 5);
    }

    private static void notUndone() {
        FieldKeepsCamps x = Due.with("44", "001190");
        x.years(1);
        x.marked(0, 1, 1);
        x.heard(0, 1);
        Due.rule(x, "3");
        x.undo();
        DUE.is("marks", x.count(7), 1);
        DUE.is("what was heard", x.count(8), 1);
        DUE.is("the rule", x.camp(0, 6), 3);
        x.keep(0);
        x.years(1);
        DUE.is("again(0)", x.again(0), true);
        DUE.is("again() forgets", x.undo(), -1);
        x.years(1);
        DUE.is("a refused again() does not", x.again(1), false);
        DUE.is("undoable", x.count(9), 1);
        DUE.is("a refused field() does not", Due.field(x, "4"), -2);
        DUE.is("undoable", x.count(9), 1);
        DUE.is("field() forgets", Due.field(x, "44"), 16);
        DUE.is("undo()", x.undo(), -1);
    }
}
