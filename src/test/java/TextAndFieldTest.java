/** Promises 1 to 9: a new object, THE TEXT, THE FIELD, CAMPS, THE RULE, what is asked of them, sheets. */
final class TextAndFieldTest {
    private static final Due DUE = new Due("text and field");

    public static void main(String[] args) {
        newObject();
        signs();
        ends();
        fields();
        campsTold();
        campsRefused();
        campsWithoutRoom();
        rulesRead();
        rulesRefused();
        rulesMeant();
        campAsked();
        cellAsked();
        sheets();
        DUE.finish();
    }

    private static void newObject() {
        FieldKeepsCamps x = new FieldKeepsCamps();
        for (int what = 0; what <= 11; what++) {
            DUE.is("count(" + what + ") of a new one", x.count(what), what < 2 ? 4 : 0);
        }
        DUE.is("NONE", FieldKeepsCamps.NONE, -1);
        DUE.is("undo() of a new one", x.undo(), -1);
        DUE.is("again(0) of a new one", x.again(0), false);
    }

    private static void signs() {
        FieldKeepsCamps x = new FieldKeepsCamps();
        for (int i = 1; i <= 20; i++) {
            DUE.is("sign", x.sign(0x33343536), 4 * i);
        }
        DUE.is("sign beyond 80", x.sign(0), -1);
        DUE.is("signs then", x.count(11), 80);
        DUE.is("end(77)", x.end(77), true);
        DUE.is("sign from 77", x.sign(0), -1);
        DUE.is("signs then", x.count(11), 77);
        DUE.is("end(76)", x.end(76), true);
        DUE.is("sign from 76", x.sign(0), 80);
        // the highest byte comes first, and the text keeps its first signs
        DUE.is("end(2)", x.end(2), true);
        DUE.is("field of 34", x.field(), 12);
        DUE.is("rows", x.count(0), 3);
        DUE.is("columns", x.count(1), 4);
        DUE.is("field empties", x.count(11), 0);
    }

    private static void ends() {
        FieldKeepsCamps x = new FieldKeepsCamps();
        DUE.is("end(0)", x.end(0), true);
        DUE.is("end(1)", x.end(1), false);
        x.sign(0);
        DUE.is("end(-1)", x.end(-1), false);
        DUE.is("end(5)", x.end(5), false);
        DUE.is("end(MIN)", x.end(Integer.MIN_VALUE), false);
        DUE.is("signs", x.count(11), 4);
        DUE.is("end(4)", x.end(4), true);
        DUE.is("end(3)", x.end(3), true);
        DUE.is("signs", x.count(11), 3);
    }

    private static void fields() {
        String[] bad = {"", "2", "7", "x", "3", "32", "37", "3x", "333", "33;", "2222", "\u00ff6"};
        int[] answer = {-1, -1, -1, -1, -2, -2, -2, -2, -3, -3, -1, -1};
        FieldKeepsCamps x = Due.with("56", "001111");
        x.marked(0, 1, 1);
        x.heard(0, 3);
        x.keep(0);
        x.years(3);
        Due.rule(x, "2");
        for (int i = 0; i < bad.length; i++) {
            DUE.is("field() of " + bad[i], Due.field(x, bad[i]), answer[i]);
            DUE.is("THE TEXT behind it", x.count(11), 0);
        }
        DUE.is("columns stay", x.count(1), 6);
        DUE.is("YEAR stays", x.count(4), 3);
        DUE.is("LOST stays", x.count(5), 1);
        DUE.is("marks stay", x.count(7), 1);
        DUE.is("field() of 63", Due.field(x, "63"), 18);
        long[] counts = {6, 3, 0, 0, 0, 0, 0, 0, 1, 0, 2, 0};
        for (int what = 0; what < counts.length; what++) {
            DUE.is("count(" + what + ") behind field()", x.count(what), counts[what]);
        }
        DUE.is("again(0) behind field()", x.again(0), false);
        Due.camps(x, "001150");
        DUE.is("the rule stays", x.camp(0, 6), 2);
    }

    private static void campsTold() {
        FieldKeepsCamps x = new FieldKeepsCamps();
        DUE.is("camps() of none", Due.camps(x, ""), 0);
        DUE.is("camps() of one", Due.camps(x, "001399"), 1);
        DUE.is("camps() of two", Due.camps(x, "133110;003145"), 2);
        DUE.is("CAMPS", x.count(2), 3);
        int[][] due = {{0, 1, 3, 9, 9, 0}, {7, 3, 1, 1, 0, 0}, {0, 3, 1, 4, 5, 0}};
        for (int camp = 0; camp < 3; camp++) {
            for (int what = 0; what < 6; what++) {
                DUE.is("camp(" + camp + ", " + what + ")", x.camp(camp, what), due[camp][what]);
            }
        }
        x.years(1);
        DUE.is("undoable", x.count(9), 1);
        DUE.is("camps() of none forgets nothing", Due.camps(x, ""), 0);
        DUE.is("undoable", x.count(9), 1);
        x.keep(1);
        DUE.is("camps() of none leaves what is kept", Due.camps(x, ""), 0);
        DUE.is("again(1)", x.again(1), true);
        x.years(1);
        x.keep(1);
        DUE.is("a bad one forgets nothing", Due.camps(x, "0"), -2);
        DUE.is("undoable", x.count(9), 1);
        DUE.is("camps() forgets", Due.camps(x, "331110"), 1);
        DUE.is("undoable", x.count(9), 0);
        DUE.is("again(1)", x.again(1), false);
        DUE.is("YEAR stays", x.count(4), 2);
    }

    private static void campsRefused() {
        String[] bad = {"x", "401110", "041110", "0", "00", "001", "0011", "00111", "0011110", "000110", "004110",
            "302110", "301", "000", "001010", "001410", "022110", "02", "022", "023", "0213", "021310",
            "001100", "00111x", "001110;", "001110;;", "001110;4", "001110;000", "001110:", "001110;0011105",
            "/01110", ":01110"};
        int[] at = {0, 0, 1, 1, 2, 3, 4, 5, 6, 2, 2,
            2, 3, 2, 3, 3, -1, 2, 3, 3, 3, 3,
            4, 5, 7, 7, 7, 9, 6, 13,
            0, 0};
        for (int i = 0; i < bad.length; i++) {
            FieldKeepsCamps x = new FieldKeepsCamps();
            if (at[i] < 0) {
                DUE.is("camps() of " + bad[i], Due.camps(x, bad[i]), 1);
                continue;
            }
            DUE.is("camps() of " + bad[i], Due.camps(x, bad[i]), -1 - at[i]);
            DUE.is("nothing of it comes", x.count(2), 0);
            DUE.is("THE TEXT behind it", x.count(11), 0);
        }
    }

    private static void campsWithoutRoom() {
        String four = "001110;001110;001110;001110";
        FieldKeepsCamps x = new FieldKeepsCamps();
        DUE.is("eight lines", Due.camps(x, four + ";" + four), 8);
        DUE.is("a ninth", Due.camps(x, "001110"), -1);
        DUE.is("a ninth that is none", Due.camps(x, "q"), -1);
        DUE.is("none more", Due.camps(x, ""), 0);
        DUE.is("CAMPS", x.count(2), 8);
        Due.field(x, "44");
        DUE.is("nine lines", Due.camps(x, four + ";" + four + ";001110"), -1 - 55);
        DUE.is("eight lines and a sign", Due.camps(x, four + ";" + four + "x"), -1 - 55);
        DUE.is("a fault ahead of the 55th", Due.camps(x, four + ";" + four.substring(0, 26) + "x;001110"), -1 - 54);
        DUE.is("CAMPS", x.count(2), 0);
        DUE.is("four lines", Due.camps(x, four), 4);
        DUE.is("five more", Due.camps(x, four + ";001110"), -1 - 28);
        DUE.is("five more that end", Due.camps(x, four + ";"), -1 - 28);
        DUE.is("a fault ahead of it", Due.camps(x, "001110;001100;" + four), -1 - 11);
        DUE.is("CAMPS", x.count(2), 4);
        DUE.is("four more", Due.camps(x, four), 4);
    }

    private static void rulesRead() {
        String[] good = {"", "0", "999", "s", "a+o-h*w/c", "r<n", "----1", "1--1", "2*-3", "((((1))))", "(1<2)<(3>4)",
            "(s)", "((1)+(2)=(3))", "1+(o>1)", "-(-(-1))", "007", "s=s",
            "1+1+1+1+1+1+1+1+1+1+1+1+1+1+1+1+1+1+1+12", "---------------------------------------1"};
        for (String text : good) {
            FieldKeepsCamps x = new FieldKeepsCamps();
            DUE.is("rule() of " + text, Due.rule(x, text), 0);
            DUE.is("THE TEXT behind it", x.count(11), 0);
        }
    }

    private static void rulesRefused() {
        String[] bad = {"z", "1000", "1+", "+1", "(", "(1", "1)", "()", "(((((1)))))", "((((1)))", "1<2<3", "1<2=3",
            "(1<2>3)", "1<", "ss", "1s", "s1", "1(", "(1)(", "-", "1-", "1*+1", "1**1", "1//1", "*1", "1 ", "12a",
            "1+(2", "1<(2<3)<4", "S", "\u00e9", "<1", ")",
            "1+1+1+1+1+1+1+1+1+1+1+1+1+1+1+1+1+1+1+1+1", "1+1+1+1+1+1+1+1+1+1+1+1+1+1+1+1+1+1+1+121",
            "1+1+1+1+1+1+1+1+1+1+1+1+1+1+1+1+1+1+1+12z", "1+1+1+1+1+1+1+1+1+1+1+1+1+1+1+1+1+1+1+1z1",
            "1+1+1+1+1+1+1+1+1+1+1+1+1+1+1+1+1+1+1+1+",
            "(((1+1+1+1+1+1+1+1+1+1+1+1+1+1+1+1+1+1+1+1)))"};
        int[] at = {0, 3, 2, 0, 1, 2, 1, 1, 4, 8, 3, 3,
            4, 2, 1, 1, 1, 1, 3, 1, 2, 2, 2, 2, 0, 1, 2,
            4, 7, 0, 0, 0, 0,
            40, 40,
            40, 39,
            40,
            40};
        FieldKeepsCamps x = Due.with("44", "001190");
        Due.rule(x, "7");
        for (int i = 0; i < bad.length; i++) {
            DUE.is("rule() of " + bad[i], Due.rule(x, bad[i]), -1 - at[i]);
            DUE.is("THE TEXT behind it", x.count(11), 0);
            DUE.is("the rule stays", x.camp(0, 6), 7);
            DUE.is("law() of " + bad[i], Due.law(x, bad[i]), -10000 - at[i]);
        }
        DUE.is("rule() of none", Due.rule(x, ""), 0);
        DUE.is("none: 1+(o>1)", x.camp(0, 6), 1);
    }

    /** Of camp 0: ROW 1, COLUMN 2, HEIGHT 2, WIDTH 3, STRENGTH 7, AGE 3, YEAR 3, o 2. */
    private static void rulesMeant() {
        FieldKeepsCamps x = Due.with("56", "122390;441110");
        Due.rule(x, "0");
        x.years(3);
        x.treads(0, 2);
        Due.camps(x, "121110;231110;001110");
        String[] rule = {"s", "a", "o", "h", "w", "c", "r", "n", "5-7", "12", "s/2", "-s/2+9", "(0-s)/2+9",
            "s/0+4", "7/2*2", "8/2/2", "9-4-3", "2+3*2", "(2+3)*1", "3<4+1", "3+4<5", "s>6", "s<7", "s=7", "s=7+1",
            "--4", "---4+9", "2*-3+9", "8-(2<3)-(3<2)", "999*999*999*999-1", "a*a=9", "1+(o>1)", "5--3", "-1<0",
            "0-7/2+9", "(0-7)/2+9", "100/(s-7)", "007"};
        int[] loss = {7, 3, 2, 2, 3, 2, 1, 3, 0, 9, 3, 6, 6,
            4, 6, 2, 2, 8, 5, 1, 0, 1, 0, 1, 0,
            4, 5, 3, 7, (int) (999L * 999 * 999 * 999 - 1) > 0 ? 9 : 0, 1, 2, 8, 1,
            6, 6, 0, 7};
        for (int i = 0; i < rule.length; i++) {
            DUE.is("rule() of " + rule[i], Due.rule(x, rule[i]), 0);
            DUE.is("LOSS by " + rule[i], x.camp(0, 6), loss[i]);
        }
        Due.rule(x, "0");
        x.years(6);
        Due.rule(x, "n");
        DUE.is("YEAR 9 by 7", x.camp(0, 6), 2);
        Due.rule(x, "a");
        DUE.is("AGE of the other", x.camp(2, 6), 6);
        x.treads(2, 9);
        DUE.is("LOSS of one that is not ON", x.camp(2, 6), 0);
    }

    private static void campAsked() {
        FieldKeepsCamps x = Due.with("44", "002231;112252;031190");
        int[][] due = {{0, 2, 2, 3, 1, 0, 1, 2}, {5, 2, 2, 5, 2, 0, 1, 1}, {3, 1, 1, 9, 0, 0, 1, 0}};
        for (int camp = 0; camp < 3; camp++) {
            for (int what = 0; what < 8; what++) {
                DUE.is("camp(" + camp + ", " + what + ")", x.camp(camp, what), due[camp][what]);
            }
        }
        int[] wrongCamp = {-1, 3, 8, Integer.MAX_VALUE, Integer.MIN_VALUE};
        for (int camp : wrongCamp) {
            DUE.noSuch("camp(" + camp + ", 0)", () -> x.camp(camp, 0));
        }
        int[] wrongWhat = {-1, 8, Integer.MAX_VALUE, Integer.MIN_VALUE};
        for (int what : wrongWhat) {
            DUE.noSuch("camp(0, " + what + ")", () -> x.camp(0, what));
        }
        x.treads(1, 9);
        DUE.is("crossed by one that is not ON", x.camp(0, 7), 0);
        DUE.is("crossing of one that is not ON", x.camp(1, 7), 0);
        DUE.is("LOSS of one that is not ON", x.camp(1, 6), 0);
        DUE.is("its first CELL", x.camp(1, 0), 5);
    }

    private static void cellAsked() {
        int[][] due = {{9, 7, 0}, {1, 5, 0}, {1, 5, 0}, {1, 5, 0}, {3, 10, 0}, {3, 10, 0}, {1, 5, 0}, {3, 10, 0}};
        FieldKeepsCamps y = Due.with("33", "003350;112250;221180;001120");
        for (int cell = 0; cell < due.length; cell++) {
            for (int what = 0; what < 3; what++) {
                DUE.is("cell(" + cell + ", " + what + ")", y.cell(cell, what), due[cell][what]);
            }
        }
        DUE.is("cell(8, 0)", y.cell(8, 0), 7);
        DUE.is("cell(8, 1)", y.cell(8, 1), 18);
        DUE.is("cell(8, 2)", y.cell(8, 2), 2);
        y.treads(0, 9);
        DUE.is("cell(1, 0)", y.cell(1, 0), 0);
        DUE.is("cell(1, 1)", y.cell(1, 1), 0);
        DUE.is("cell(1, 2)", y.cell(1, 2), -1);
        int[] wrongCell = {-1, 9, Integer.MAX_VALUE, Integer.MIN_VALUE};
        for (int cell : wrongCell) {
            DUE.noSuch("cell(" + cell + ", 0)", () -> y.cell(cell, 0));
        }
        DUE.noSuch("cell(0, -1)", () -> y.cell(0, -1));
        DUE.noSuch("cell(0, 3)", () -> y.cell(0, 3));
    }

    private static void sheets() {
        FieldKeepsCamps x = Due.with("44", "001150;011150;021150");
        DUE.is("ints 2 4 6", x.sheet(2, 3, 2, 2), 12);
        strengths(x, 2, 4, 6);
        DUE.is("ints of one", x.sheet(2, 1, 7, 100), 7);
        strengths(x, 7, 0, 0);
        DUE.is("more than there are camps", x.sheet(2, 8, 1, 1), 6);
        strengths(x, 1, 2, 3);
        DUE.is("bytes", x.sheet(0, 3, 254, 5), 0 + 3 + 8);
        strengths(x, 0, 3, 8);
        DUE.is("bytes with their sign", x.sheet(0, 3, 128, 129), 0 + 1 + 0);
        strengths(x, 0, 1, 0);
        DUE.is("shorts", x.sheet(1, 3, 65535, 3), 0 + 2 + 5);
        strengths(x, 0, 2, 5);
        DUE.is("shorts above a byte", x.sheet(1, 3, 258, -254), 9 + 4 + 0);
        strengths(x, 9, 4, 0);
        DUE.is("ints, put to 0 .. 9", x.sheet(2, 3, -65530, 65533), 0 + 3 + 9);
        strengths(x, 0, 3, 9);
        DUE.is("ints that wrap", x.sheet(2, 3, Integer.MAX_VALUE, 3), 9 + 0 + 0);
        strengths(x, 9, 0, 0);
        x.sheet(2, 3, 2, 2);
        DUE.is("n below 0", x.sheet(0, -1, 1, 1), -2);
        DUE.is("n below 0", x.sheet(2, Integer.MIN_VALUE, 1, 1), -2);
        DUE.is("n above 8", x.sheet(1, 9, 1, 1), -1);
        DUE.is("n above 8 of a missing one", x.sheet(3, 9, 1, 1), -1);
        DUE.is("another kind", x.sheet(4, -1, 1, 1), -1);
        DUE.is("another kind", x.sheet(-1, 1, 1, 1), -1);
        strengths(x, 2, 4, 6);
        DUE.is("a missing one", x.sheet(3, -1, 5, 5), -3);
        strengths(x, 0, 0, 0);
        DUE.is("LOST", x.count(5), 0);
        DUE.is("ints of none", x.sheet(2, 0, 5, 5), 0);
        DUE.is("undoable", x.count(9), 0);
        DUE.is("the ROW", x.count(10), 0);
    }

    private static void strengths(FieldKeepsCamps x, int... due) {
        for (int camp = 0; camp < due.length; camp++) {
            DUE.is("STRENGTH of " + camp, x.camp(camp, 3), due[camp]);
        }
    }
}
