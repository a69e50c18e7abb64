import java.util.Arrays;

/** Boundary cases of the document's terms: THE FIELD, CAMPS, THE RULE, A YEAR, the ROW, refused calls. */
final class EdgesOfTerms {
    private static final String EIGHT = "001110;001110;001110;001110;001110;001110;001110;001110";
    /** 2 to the 31st, one above the greatest int. */
    private static final String WRAPS = "128*128*128*128*8";
    private final Edges e;

    EdgesOfTerms(Edges e) {
        this.e = e;
    }

    void check() {
        field();
        manyCamps();
        sides();
        places();
        numbersOfCamps();
        textOfCamps();
        crossing();
        yearAndLost();
        rule();
        comparisons();
        operators();
        things();
        letters();
        losses();
        yearThins();
        yearAges();
        yearSlips();
        rows();
        questions();
        refused();
        lawsOfThinning();
    }

    private void field() {
        e.of(Edges.TERMS, "ROWS and COLUMNS, 3 to 6 each (at first 4 and 4)");
        FieldKeepsCamps x = new FieldKeepsCamps();
        e.is("ROWS at first", x.count(0), 4);
        e.is("COLUMNS at first", x.count(1), 4);
        for (int d = 0; d <= 9; d++) {
            boolean may = d >= 3 && d <= 6;
            e.is("ROWS " + d, Due.field(x, d + "5"), may ? 5 * d : -1);
            e.is("COLUMNS " + d, Due.field(x, "5" + d), may ? 5 * d : -2);
        }
        e.of(Edges.TERMS, "CELLS by rows, from 0 on.");
        FieldKeepsCamps y = Due.with("35", "001110;041110;101110;241110");
        e.is("the first CELL", y.camp(0, 0), 0);
        e.is("the last CELL of the first ROW", y.camp(1, 0), 4);
        e.is("the first CELL of the second ROW", y.camp(2, 0), 5);
        e.is("the last CELL", y.camp(3, 0), 14);
        e.is("CAMPS on the last CELL", y.cell(14, 0), 8);
        e.noSuch("cell(15, 0)", y, () -> y.cell(15, 0));
        e.noSuch("cell(-1, 0)", y, () -> y.cell(-1, 0));
        e.of(Edges.TERMS, "It is told by a text of two digits (3 .. 6).");
        e.is("one digit", Due.field(x, "5"), -2);
        e.is("two digits", Due.field(x, "55"), 25);
        e.is("three digits", Due.field(x, "555"), -3);
    }

    private void manyCamps() {
        e.of(Edges.TERMS, "CAMPS 0 .. (at most 8)");
        FieldKeepsCamps x = new FieldKeepsCamps();
        for (int i = 0; i < 8; i++) {
            e.is("pitch()", x.pitch(i, 1, 1, 1, 0), i);
            e.is("CAMPS", x.count(2), i + 1);
        }
        e.answers("a ninth by pitch()", x, () -> x.pitch(8, 1, 1, 1, 0), -3);
        e.none("a ninth by camps()", x, () -> Due.camps(x, "201110"));
        e.is("the first", x.camp(0, 0), 0);
        e.is("the eighth", x.camp(7, 0), 7);
        e.noSuch("the ninth", x, () -> x.camp(8, 0));
        e.noSuch("CAMP -1", x, () -> x.camp(-1, 0));
        FieldKeepsCamps y = Due.with("44", EIGHT);
        e.is("eight by camps()", y.count(2), 8);
    }

    private void sides() {
        e.of(Edges.TERMS, "each lies over HEIGHT by WIDTH CELLS (1 .. 3 each)");
        for (int h = 0; h <= 9; h++) {
            for (int w = 0; w <= 9; w++) {
                FieldKeepsCamps x = Due.with("66", "");
                boolean high = h >= 1 && h <= 3;
                boolean wide = w >= 1 && w <= 3;
                String what = "HEIGHT " + h + ", WIDTH " + w;
                e.is(what, Due.camps(x, "00" + h + w + "10"), !high ? -3 : !wide ? -4 : 1);
                x.slept();
                e.is(what + ": CELLS", x.row(0), high && wide ? h * w : 0);
                e.is(what + ", pitched", x.pitch(21, h, w, 1, 0), high && wide ? 1 : -1);
            }
        }
    }

    private void places() {
        e.of(Edges.TERMS, "its first one (up and left) in a ROW and a COLUMN, all in THE FIELD;");
        for (int r = 0; r <= 5; r++) {
            for (int c = 0; c <= 6; c++) {
                for (int h = 1; h <= 3; h++) {
                    for (int w = 1; w <= 3; w++) {
                        FieldKeepsCamps x = Due.with("45", "");
                        int due = r > 3 ? -1 : c > 4 ? -2 : r + h > 4 ? -3 : c + w > 5 ? -4 : 1;
                        String line = "" + r + c + h + w + "10";
                        e.is("camps() of " + line, Due.camps(x, line), due);
                        if (due == 1) {
                            e.is("first CELL of " + line, x.camp(0, 0), 5 * r + c);
                            e.is("last CELL of " + line, x.cell(5 * (r + h - 1) + c + w - 1, 0), 1);
                        }
                    }
                }
            }
        }
    }

    private void numbersOfCamps() {
        e.of(Edges.TERMS, "STRENGTH 0 .. 9, SLIP 0 .. 9, AGE 0 .. 99 (at first 0).");
        FieldKeepsCamps x = Due.with("44", "001110;111199");
        Due.rule(x, "0");
        e.is("SLIP 0", x.camp(0, 4), 0);
        e.is("SLIP 9", x.camp(1, 4), 9);
        e.is("AGE at first", x.camp(0, 5), 0);
        e.is("STRENGTH 8", x.sings(0, 7), 8);
        e.is("STRENGTH 9", x.sings(0, 1), 9);
        e.is("STRENGTH no more than 9", x.sings(0, 1), 9);
        e.is("STRENGTH 1", x.treads(0, 8), 1);
        e.is("STRENGTH 0", x.treads(0, 1), 0);
        e.is("STRENGTH 4", x.sings(0, 4), 4);
        e.is("STRENGTH no less than 0", x.treads(0, 9), 0);
        x.sings(0, 1);
        x.years(60);
        x.years(38);
        e.is("AGE 98", x.camp(0, 5), 98);
        x.years(1);
        e.is("AGE 99", x.camp(0, 5), 99);
        x.years(1);
        e.is("AGE no more than 99", x.camp(0, 5), 99);
        e.is("AGE at first, pitched late", x.camp(x.pitch(15, 1, 1, 1, 0), 5), 0);
        e.of(Edges.TERMS, "It is ON, if its STRENGTH is above 0.");
        FieldKeepsCamps y = Due.with("44", "001120");
        y.treads(0, 1);
        e.is("STRENGTH 1: ON", y.count(3), 1);
        e.is("STRENGTH 1: over its CELL", y.cell(0, 0), 1);
        y.treads(0, 1);
        e.is("STRENGTH 0: not ON", y.count(3), 0);
        e.is("STRENGTH 0: not over its CELL", y.cell(0, 0), 0);
    }

    private void textOfCamps() {
        e.of(Edges.TERMS, "They are told by a text of at most 55 signs:");
        FieldKeepsCamps x = new FieldKeepsCamps();
        e.answers("56 signs", x, () -> Due.camps(x, EIGHT + ";"), -56);
        e.answers("80 signs", x, () -> Due.camps(x, EIGHT + ";001110;001110;001110;001"), -56);
        e.is("55 signs", Due.camps(x, EIGHT), 8);
        e.of(Edges.TERMS, "LINES with ; between, each one more: six digits: ROW, COLUMN, HEIGHT, WIDTH, STRENGTH (not 0), "
                + "SLIP.");
        FieldKeepsCamps y = Due.with("66", "123142");
        int[] due = {8, 3, 1, 4, 2, 0};
        for (int what = 0; what < due.length; what++) {
            e.is("camp(0, " + what + ")", y.camp(0, what), due[what]);
        }
        e.is("STRENGTH 0", Due.camps(y, "123102"), -5);
        e.is("STRENGTH 1", Due.camps(y, "123112"), 1);
        e.is("five digits", Due.camps(y, "12311"), -6);
        e.is("seven digits", Due.camps(y, "1231120"), -7);
        e.is("a LINE and ;", Due.camps(y, "123112;"), -8);
        e.is("; alone", Due.camps(y, ";"), -1);
        e.is("two LINES", Due.camps(y, "123112;551190"), 2);
        e.is("two ;", Due.camps(y, "123112;;551190"), -8);
        e.is("each one more", y.count(2), 4);
        e.is("the last one", y.camp(3, 0), 35);
    }

    private void crossing() {
        e.of(Edges.TERMS, "Two CAMPS CROSS, if both are ON and have a CELL in common.");
        for (int r = 0; r <= 4; r++) {
            for (int c = 0; c <= 4; c++) {
                FieldKeepsCamps x = Due.with("66", "222210;" + r + c + "2210");
                boolean cross = r >= 1 && r <= 3 && c >= 1 && c <= 3;
                String where = " beside one at " + r + ", " + c;
                e.is("CROSSES of the first" + where, x.camp(0, 7), cross ? 2 : 0);
                e.is("CROSSES of the second" + where, x.camp(1, 7), cross ? 1 : 0);
                x.treads(1, 1);
                e.is("the second is not ON" + where, x.camp(0, 7) + x.camp(1, 7), 0);
                x.sings(1, 1);
                e.is("the second is ON again" + where, x.camp(0, 7), cross ? 2 : 0);
                x.treads(0, 1);
                e.is("the first is not ON" + where, x.camp(0, 7) + x.camp(1, 7), 0);
            }
        }
    }

    private void yearAndLost() {
        e.of(Edges.TERMS, "YEAR (at first 0), LOST 0 .. 999 (at first 0).");
        FieldKeepsCamps x = new FieldKeepsCamps();
        e.is("YEAR at first", x.count(4), 0);
        e.is("LOST at first", x.count(5), 0);
        FieldKeepsCamps y = Due.with("44", EIGHT);
        for (int i = 1; i <= 124; i++) {
            y.sheet(2, 8, 1, 0);
            y.years(1);
        }
        e.is("LOST", y.count(5), 992);
        y.sheet(2, 6, 1, 0);
        y.years(1);
        e.is("LOST", y.count(5), 998);
        y.sheet(2, 1, 1, 0);
        y.years(1);
        e.is("LOST", y.count(5), 999);
        y.sheet(2, 1, 1, 0);
        y.years(1);
        e.is("LOST no more than 999", y.count(5), 999);
        y.sheet(2, 8, 1, 0);
        y.years(1);
        e.is("LOST no more than 999", y.count(5), 999);
        e.is("YEAR", y.count(4), 128);
    }

    private void rule() {
        e.of(Edges.TERMS, "THE RULE is a text of at most 40 signs (at first none: 1+(o>1)).");
        FieldKeepsCamps x = Due.with("44", "001190");
        e.is("LOSS of one that CROSSES none", x.camp(0, 6), 1);
        Due.camps(x, "001190");
        e.is("LOSS of one that CROSSES one", x.camp(0, 6), 1);
        Due.camps(x, "001190");
        e.is("LOSS of one that CROSSES two", x.camp(0, 6), 2);
        Due.camps(x, "001190");
        e.is("LOSS of one that CROSSES three", x.camp(0, 6), 2);
        String forty = "1+".repeat(19) + "12";
        e.is("40 signs", Due.rule(x, forty), 0);
        e.is("LOSS by it", x.camp(0, 6), 9);
        e.is("40 signs, no two of which are one thing", Due.rule(x, "-1+" + "0+".repeat(18) + "4"), 0);
        e.is("LOSS by it", x.camp(0, 6), 3);
        Due.rule(x, "3");
        e.answers("41 signs", x, () -> Due.rule(x, forty + "3"), -41);
        e.answers("80 signs", x, () -> Due.rule(x, "1+".repeat(40)), -41);
        e.is("LOSS as before", x.camp(0, 6), 3);
    }

    /** LOSS of the first camp by a rule; a rule that can't be read answers below 0. */
    private static int loss(FieldKeepsCamps x, String rule) {
        int answer = Due.rule(x, rule);
        return answer < 0 ? answer : x.camp(0, 6);
    }

    private void comparisons() {
        e.of(Edges.TERMS, "EXPRESSION: < > = bind least (two; 1 or 0; not one behind the other)");
        FieldKeepsCamps x = Due.with("44", "001150");
        String[] rules = {"s<4", "s<5", "s<6", "s>4", "s>5", "s>6", "s=4", "s=5", "s=6", "2<1+1", "3>1+1", "4=2+2",
            "2*2=4", "1+1<3", "(1<2)<3", "1<(2<3)", "(2<1)=(1<0)", "1<2+(3<4)", "3+(s<5)", "3+(s>5)", "3+(s=4)",
            "3+(s<6)", "3+(s>4)", "3+(s=5)"};
        int[] due = {0, 0, 1, 1, 0, 0, 0, 1, 0, 0, 1, 1,
            1, 1, 1, 0, 1, 1, 3, 3, 3,
            4, 4, 4};
        for (int i = 0; i < rules.length; i++) {
            e.is("LOSS by " + rules[i], loss(x, rules[i]), due[i]);
        }
        for (String first : new String[] {"<", ">", "="}) {
            for (String second : new String[] {"<", ">", "="}) {
                e.is("one behind the other", loss(x, "1" + first + "2" + second + "3"), -4);
                e.is("one behind the other, in ( )", loss(x, "(1" + first + "2" + second + "3)"), -5);
                e.is("one at once behind the other", loss(x, "1" + first + second + "2"), -3);
                e.is("one in ( )", loss(x, "(9" + first + "2)" + second + "3") >= 0, true);
            }
            e.is("without the first", loss(x, first + "1"), -1);
            e.is("without the second", loss(x, "1" + first), -3);
        }
    }

    private void operators() {
        e.of(Edges.TERMS, "then + - (from the left)");
        FieldKeepsCamps x = Due.with("44", "001150");
        String[] sums = {"9-3-2", "9-(3-2)", "5-2+1", "5-(2+1)", "+1", "1+", "1-", "1++1", "1+2"};
        int[] sum = {4, 8, 4, 2, -1, -3, -3, -3, 3};
        for (int i = 0; i < sums.length; i++) {
            e.is("LOSS by " + sums[i], loss(x, sums[i]), sum[i]);
        }
        e.of(Edges.TERMS, "then * / (from the left; by 0: 0; cut to 0)");
        String[] products = {"8/2/2", "8/(2/2)", "6/4*4", "2+3*2", "(2+1)*2", "9-6/3", "7/2", "(0-7)/2+9", "7/(0-2)+9",
            "(0-7)/(0-2)", "(0-1)/2+5", "5/0", "5/0+3", "3+5/0", "5/(s-5)", "5/(s-4)", "(0-5)/0+1", "0/0+1", "0/5+1",
            "*1", "/1", "1*", "1/", "1**1", "1*/1", "4/5", "5/5"};
        int[] product = {2, 8, 4, 8, 6, 7, 3, 6, 6,
            3, 5, 0, 3, 3, 0, 5, 1, 1, 1,
            -1, -1, -3, -3, -3, -3, 0, 1};
        for (int i = 0; i < products.length; i++) {
            e.is("LOSS by " + products[i], loss(x, products[i]), product[i]);
        }
        e.of(Edges.TERMS, "then - ahead of a thing (any many);");
        String[] minus = {"-1+3", "--4", "---4+9", "2*-3+9", "9+-4", "8--1", "-2*-2", "-2+5", "-s+7", "-(2-5)",
            "--(2-5)+9", "-", "--", "1-", "1--", "-+1", "-*1", "6/-2+9", "-".repeat(38) + "1", "-".repeat(39) + "1",
            "-".repeat(40) + "1", "-".repeat(40)};
        int[] due = {2, 4, 5, 3, 5, 9, 4, 3, 2, 3,
            6, -2, -3, -3, -4, -2, -2, 6, 1, 0,
            -41, -41};
        for (int i = 0; i < minus.length; i++) {
            e.is("LOSS by " + minus[i], loss(x, minus[i]), due[i]);
        }
    }

    private void things() {
        e.of(Edges.TERMS, "things: a NUMBER of 1 to 3 digits");
        FieldKeepsCamps x = Due.with("44", "001150");
        String[] numbers = {"7", "07", "007", "0007", "1000", "999-994", "999-1000", "100-91", "1+1234", "12s", "s12",
            "1 ", "1.5"};
        int[] number = {7, 7, 7, -4, -4, 5, -8, 9, -6, -3, -2,
            -2, -2};
        for (int i = 0; i < numbers.length; i++) {
            e.is("LOSS by " + numbers[i], loss(x, numbers[i]), number[i]);
        }
        e.of(Edges.TERMS, "an EXPRESSION in ( ) (at most 4 in one another)");
        String[] opened = {"(5)", "((((5))))", "(((((5)))))", "((((5))))+((((1))))", "((((5+(1)))))", "(((5+(1))))",
            "((((5)))", "(5", "()", "(5))", ")", "(", "((((", "(((((", "(5)(5)", "5(5)", "(5)5", "((((1))+((1))))"};
        int[] open = {5, 5, -5, 6, -7, 6,
            -9, -3, -2, -4, -1, -2, -5, -5, -4, -2, -4, 2};
        for (int i = 0; i < opened.length; i++) {
            e.is("LOSS by " + opened[i], loss(x, opened[i]), open[i]);
        }
    }

    private void letters() {
        e.of(Edges.TERMS, "of a CAMP: s STRENGTH, a AGE, o how many others it CROSSES, h HEIGHT, w WIDTH, c its COLUMN, "
                + "r its ROW, n YEAR by 7 (rest).");
        FieldKeepsCamps x = Due.with("66", "");
        x.years(2);
        Due.camps(x, "452190;551110;451110;551110;451110;551110;451110;551110");
        Due.rule(x, "0");
        x.years(8);
        x.treads(0, 3);
        String letters = "saohwcrn";
        int[] due = {6, 8, 7, 2, 1, 5, 4, 3};
        for (int i = 0; i < 8; i++) {
            e.is("LOSS by " + letters.charAt(i), loss(x, letters.substring(i, i + 1)), due[i]);
        }
        for (int sign = 0; sign < 256; sign++) {
            boolean may = letters.indexOf(sign) >= 0 || sign >= '0' && sign <= '9';
            int want = may ? 0 : sign == '(' || sign == '-' ? -2 : -1;
            e.is("rule() of the sign " + sign, Due.rule(x, "" + (char) sign), want);
        }
        FieldKeepsCamps y = Due.with("33", "001190");
        for (int year = 0; year <= 15; year++) {
            e.is("n in YEAR " + year, loss(y, "n"), year % 7);
            Due.rule(y, "0");
            y.years(1);
        }
        FieldKeepsCamps z = Due.with("33", EIGHT);
        e.is("o of seven others", loss(z, "o"), 7);
        z.treads(7, 1);
        e.is("o of six others that are ON", loss(z, "o"), 6);
    }

    private void losses() {
        e.of(Edges.TERMS, "As ints, put to 0 .. 9: LOSS.");
        FieldKeepsCamps x = Due.with("44", "001150");
        String[] rules = {"0-1", "0", "1", "8", "9", "10", "999", "0-999", "999*999*999*2", "999*999*999*3",
            WRAPS, WRAPS + "-1", WRAPS + "/-1", "-(" + WRAPS + ")", "-(" + WRAPS + ")-1", WRAPS + "*2+5",
            WRAPS + "<0", WRAPS + "-1>0", "-(" + WRAPS + ")/2<0"};
        int[] due = {0, 0, 1, 8, 9, 9, 9, 0, 9, 0,
            0, 9, 0, 0, 9, 5,
            1, 1, 1};
        for (int i = 0; i < rules.length; i++) {
            e.is("LOSS by " + rules[i], loss(x, rules[i]), due[i]);
        }
    }

    private void yearThins() {
        e.of(Edges.TERMS, "A YEAR goes by: all as it is ahead of it:");
        // all three lose 2, as each crosses two others ahead of the year; then the last one is alone
        FieldKeepsCamps x = Due.with("44", "001120;001120;001190");
        x.years(1);
        e.strengths(x, 0, 0, 7);
        x.years(1);
        e.strengths(x, 0, 0, 6);
        e.of(Edges.TERMS, "(1) STRENGTH of each CAMP that is ON is less by LOSS (0 at least);");
        FieldKeepsCamps y = Due.with("44", "001140;011130;021120;031120;101150");
        y.treads(4, 5);
        Due.rule(y, "3");
        y.years(1);
        e.strengths(y, 1, 0, 0, 0, 0);
        e.of(Edges.TERMS, "LOST is 1 more (999 at most) for each that is not ON any more by it.");
        e.is("LOST: three of five, one was not ON, one is ON", y.count(5), 3);
        y.years(1);
        e.is("LOST by the fourth", y.count(5), 4);
        y.years(1);
        e.is("LOST when none is ON", y.count(5), 4);
        FieldKeepsCamps z = Due.with("44", EIGHT);
        for (int i = 1; i <= 124; i++) {
            z.sheet(2, 8, 1, 0);
            z.years(1);
        }
        z.sheet(2, 6, 1, 0);
        z.years(1);
        e.is("LOST, one below the most", z.count(5), 998);
        z.sheet(2, 2, 1, 0);
        z.years(1);
        e.is("LOST, two more", z.count(5), 999);
    }

    private void yearAges() {
        e.of(Edges.TERMS, "(2) AGE of each that was ON is 1 more (99 at most);");
        FieldKeepsCamps x = Due.with("44", "001110;111120;221190");
        x.treads(2, 9);
        x.years(1);
        e.is("AGE of one that is lost by the YEAR", x.camp(0, 5), 1);
        e.is("AGE of one that is ON", x.camp(1, 5), 1);
        e.is("AGE of one that was not ON", x.camp(2, 5), 0);
        x.years(1);
        e.is("AGE of one that was lost a YEAR ago", x.camp(0, 5), 1);
        x.sings(0, 9);
        Due.rule(x, "0");
        x.years(60);
        x.years(37);
        e.is("AGE", x.camp(0, 5), 98);
        x.years(1);
        e.is("AGE", x.camp(0, 5), 99);
        x.years(1);
        e.is("AGE at most", x.camp(0, 5), 99);
        e.of(Edges.TERMS, "(3) YEAR is 1 more.");
        int year = x.count(4);
        x.years(0);
        e.is("YEAR by none", x.count(4), year);
        x.years(1);
        e.is("YEAR by one", x.count(4), year + 1);
    }

    private void yearSlips() {
        e.of(Edges.TERMS, "if SLIP is not 0, and AGE is then a number of times SLIP, it goes one COLUMN to the right, or, if "
                + "it would not be in THE FIELD, to COLUMN 0.");
        for (int slip = 0; slip <= 9; slip++) {
            for (int width = 1; width <= 3; width++) {
                FieldKeepsCamps x = Due.with("45", "101" + width + "9" + slip);
                Due.rule(x, "0");
                int column = 0;
                for (int age = 1; age <= 30; age++) {
                    x.years(1);
                    if (slip > 0 && age % slip == 0) {
                        column = column + width == 5 ? 0 : column + 1;
                    }
                    e.is("SLIP " + slip + ", WIDTH " + width + ", AGE " + age, x.camp(0, 0), 5 + column);
                }
            }
        }
        FieldKeepsCamps y = Due.with("33", "003391;211199");
        Due.rule(y, "0");
        y.years(8);
        e.is("one as wide as THE FIELD", y.camp(0, 0), 0);
        e.is("SLIP 9 in 8", y.camp(1, 0), 7);
        y.years(1);
        e.is("SLIP 9 in 9", y.camp(1, 0), 8);
        y.years(9);
        e.is("SLIP 9 in 18: COLUMN 0", y.camp(1, 0), 6);
        FieldKeepsCamps z = Due.with("33", "001111;101111");
        z.treads(1, 1);
        z.years(1);
        e.is("one that is lost by the YEAR goes", z.camp(0, 0), 1);
        e.is("one that was not ON stays", z.camp(1, 0), 3);
    }

    private void rows() {
        e.of(Edges.TERMS, "ROW: numbers told last by a call that says so.");
        FieldKeepsCamps x = new FieldKeepsCamps();
        e.is("numbers at first", x.count(10), 0);
        e.told("slept()", x, x.slept(), 0, 0, 0, -1);
        e.told("pitch() tells none", x, x.pitch(5, 1, 1, 4, 0), 0, 0, 0, -1);
        e.told("crosses()", x, x.crosses(), 0, 0);
        e.told("largest()", x, x.largest(), 8, 2, 4, 2);
        e.told("a call that was refused tells none", x, x.heap(1), -1, 2, 4, 2);
        e.of(Edges.TERMS, "Rows are compared from the first number on.");
        e.told("0 1 5 stands ahead of 0 4 5", x, x.quiet(0, 5), 2, 0, 1, 5);
        e.told("15 11 10 stands ahead of 15 14 10", x, x.quiet(15, 10), 2, 15, 11, 10);
        e.of(Edges.TERMS, "Sets (of CELLS, CAMPS) are bits.");
        FieldKeepsCamps y = Due.with("66", "551110;551110;551110;551110;551110;551110;551110;551110");
        e.is("CELL 35 alone", y.slept(), 1L << 35);
        e.is("all eight", y.cell(35, 0), 255);
        y.treads(0, 1);
        e.is("all but the first", y.cell(35, 0), 254);
        e.of(Edges.TERMS, "Fractions are told in lowest terms, upper and lower number (0 by 1).");
        FieldKeepsCamps z = Due.with("33", "001110;001110");
        e.told("0 by 1", z, z.sung(0, 1, 0), 0, 0, 1);
        e.told("1 by 1", z, z.sung(0, 1, 10), 0, 1, 1);
        e.told("4 by 100", z, z.sung(0, 2, 2), 0, 1, 25);
        e.told("19 by 100", z, z.sung(0, 1, 1), 0, 19, 100);
    }

    private void questions() {
        e.of(Edges.TERMS, "Questions change nothing.");
        FieldKeepsCamps x = Due.with("44", "002231;112252;031190");
        Due.rule(x, "1+(a>2)");
        x.years(1);
        x.keep(0);
        x.marked(0, 1, 1);
        x.heard(0, 5);
        Due.tell(x, "n3");
        long[] before = withoutRow(x);
        Due.Call[] asked = {x::slept, x::crosses, () -> x.heap(0), () -> x.gone(1), () -> x.lies(1, 99),
            () -> x.clears(3), () -> x.room(2, 2), () -> x.when(3, 3), () -> x.least(3, 3), x::largest,
            () -> x.makes(3, 3), () -> x.meets(0, 15, 7), () -> x.quiet(0, 15), () -> x.soft(0, 15), () -> x.seen(0),
            x::seats, x::laws, x::watch, x::fits, () -> x.sung(5, 1, 5), () -> x.fence(40), () -> x.rests(7),
            () -> x.drawn(1, 60), () -> x.camp(0, 7), () -> x.cell(0, 2), () -> x.count(0), () -> x.row(0)};
        for (int i = 0; i < asked.length; i++) {
            asked[i].answer();
            e.is("state behind question " + i, Arrays.equals(before, withoutRow(x)), true);
            e.is("signs behind question " + i, x.count(11), 2);
        }
        x.law();
        e.is("state behind law()", Arrays.equals(before, withoutRow(x)), true);
        e.is("what was kept is there", x.again(0), true);
    }

    private static long[] withoutRow(FieldKeepsCamps x) {
        long[] all = Edges.all(x);
        all[10] = 0;
        return Arrays.copyOf(all, 11 + 64);
    }

    private void refused() {
        e.of(Edges.TERMS, "Refused calls answer NONE, or false, and change nothing but THE TEXT, which a call that reads it "
                + "empties.");
        FieldKeepsCamps x = Due.with("44", "002231");
        x.years(1);
        x.slept();
        e.none("field()", x, () -> Due.field(x, "x"));
        e.is("signs", x.count(11), 0);
        e.none("camps()", x, () -> Due.camps(x, "x"));
        e.is("signs", x.count(11), 0);
        e.none("rule()", x, () -> Due.rule(x, "x"));
        e.is("signs", x.count(11), 0);
        e.none("story()", x, () -> Due.story(x, "x"));
        e.is("signs", x.count(11), 0);
        e.answers("law()", x, () -> Due.law(x, "x"), -10000);
        e.is("signs", x.count(11), 0);
        Due.story(x, "n1");
        e.is("signs behind a story", x.count(11), 0);
        Due.law(x, "1");
        e.is("signs behind law()", x.count(11), 0);
        Due.rule(x, "1");
        e.is("signs behind rule()", x.count(11), 0);
        FieldKeepsCamps y = new FieldKeepsCamps();
        Due.field(y, "33");
        e.is("signs behind field()", y.count(11), 0);
        Due.camps(y, "001110");
        e.is("signs behind camps()", y.count(11), 0);
        Due.tell(x, "1234567");
        e.none("years()", x, () -> x.years(61));
        e.none("pitch()", x, () -> x.pitch(16, 1, 1, 1, 0));
        e.none("treads()", x, () -> x.treads(1, 1));
        e.none("sings()", x, () -> x.sings(0, 10));
        e.none("moves()", x, () -> x.moves(0, 4));
        e.none("marked()", x, () -> x.marked(0, 31, 0));
        e.none("heard()", x, () -> x.heard(5, 0));
        e.none("sheet()", x, () -> x.sheet(4, 1, 9, 0));
        e.none("keep()", x, () -> x.keep(3) ? 1 : -1);
        e.none("again()", x, () -> x.again(0) ? 1 : -1);
        e.none("end()", x, () -> x.end(8) ? 1 : -1);
        e.is("signs stay, where none reads them", x.count(11), 7);
        Due.tell(x, "1".repeat(80));
        e.none("sign()", x, () -> x.sign(0));
        e.is("signs stay", x.count(11), 80);
        x.end(0);
        x.undo();
        x.undo();
        e.none("undo()", x, x::undo);
    }

    private void lawsOfThinning() {
        e.of(Edges.TERMS, "(a, b, 0 .. 3 each: LOSS is a, and b times o more; 16 of them)");
        FieldKeepsCamps x = Due.with("44", "001130;111140;221160;221160;331170;331170");
        e.told("all of them", x, x.laws(), 16, 0, 0);
        // alone, it loses a: of STRENGTH 3 it is gone by 3 alone, of 4 by none
        x.marked(0, 1, 0);
        e.told("a of 3", x, x.laws(), 4, 3, 0);
        x.marked(1, 1, 0);
        e.told("a of 4", x, x.laws(), 0);
        x.wiped();
        x.marked(1, 30, 1);
        e.told("a of 0", x, x.laws(), 4, 0, 0);
        x.wiped();
        // beside one other, it loses a and b: of STRENGTH 6 it is gone by 3 and 3 alone, of 7 by none
        x.marked(2, 1, 0);
        e.told("a and b of 3", x, x.laws(), 1, 3, 3);
        x.wiped();
        x.marked(4, 1, 0);
        e.told("a and b of 7", x, x.laws(), 0);
        x.wiped();
        x.marked(4, 30, 1);
        e.told("a and b of 0", x, x.laws(), 1, 0, 0);
        FieldKeepsCamps y = Due.with("44", "001190;001190;001190");
        y.marked(0, 1, 0);
        e.told("b times two: 3 and 3 make 9", y, y.laws(), 1, 3, 3);
    }
}
