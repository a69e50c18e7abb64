/** Boundary cases of promises 1 to 9: a new object, THE TEXT, THE FIELD, CAMPS, THE RULE, sheets. */
final class EdgesOfField {
    private static final String FOUR = "001110;001110;001110;001110";
    private static final String EIGHT = FOUR + ";" + FOUR;
    private final Edges e;

    EdgesOfField(Edges e) {
        this.e = e;
    }

    void check() {
        newObject();
        sign();
        end();
        fieldAnew();
        fieldRefused();
        campsTold();
        campsEndEarly();
        campsAtTheirDigits();
        campsWithoutRoom();
        rule();
        ruleTooLong();
        camp();
        cell();
        sheetEntries();
        sheetRefused();
    }

    private void newObject() {
        e.of(1, "A FIELD of four ROWS and COLUMNS; no CAMPS.");
        FieldKeepsCamps x = new FieldKeepsCamps();
        for (int what = 0; what <= 11; what++) {
            e.is("count(" + what + ")", x.count(what), what < 2 ? 4 : 0);
        }
        e.is("CAMPS on the last CELL", x.cell(15, 0), 0);
        e.noSuch("a CELL behind it", x, () -> x.cell(16, 0));
        e.noSuch("a CAMP", x, () -> x.camp(0, 0));
        e.none("undo()", x, x::undo);
        e.is("again(0)", x.again(0), false);
        e.is("a FIELD of its own for each object", Due.with("66", "").count(0) + new FieldKeepsCamps().count(0), 10);
    }

    private void sign() {
        e.of(2, "Four signs come behind THE TEXT, of v the highest byte first: how many it has.");
        FieldKeepsCamps x = new FieldKeepsCamps();
        e.is("sign()", x.sign('3' << 24 | '5' << 16 | 'x' << 8 | 'y'), 4);
        e.is("sign() behind it", x.sign(-1), 8);
        x.end(2);
        e.is("field() of the two highest bytes", x.field(), 15);
        e.is("ROWS", x.count(0), 3);
        x.sign('4' << 24);
        x.end(1);
        x.sign('6' << 24);
        x.end(2);
        e.is("field() of two that came one by one", x.field(), 24);
        e.is("COLUMNS", x.count(1), 6);
        // a highest byte above 127 is a sign above 127, no other
        e.is("sign()", x.sign(0xB4B60000), 4);
        x.end(2);
        e.is("field() of signs above 127", x.field(), -1);
        e.of(2, "Refused: there would be more than 80.");
        for (int from = 70; from <= 80; from++) {
            FieldKeepsCamps y = new FieldKeepsCamps();
            Due.tell(y, "5".repeat(from));
            e.is("sign() behind " + from, y.sign(0), from <= 76 ? from + 4 : -1);
            e.is("signs then", y.count(11), from <= 76 ? from + 4 : from);
        }
    }

    private void end() {
        FieldKeepsCamps x = new FieldKeepsCamps();
        e.of(3, "THE TEXT has its first n signs alone: true;");
        Due.tell(x, "45666666");
        e.is("end(8) of 8", x.end(8), true);
        e.is("signs", x.count(11), 8);
        e.is("end(7) of 8", x.end(7), true);
        e.is("signs", x.count(11), 7);
        e.is("end(2)", x.end(2), true);
        e.is("field() of the first two", x.field(), 20);
        e.is("end(0) of none", x.end(0), true);
        Due.tell(x, "4");
        e.is("end(0) of one", x.end(0), true);
        e.is("signs", x.count(11), 0);
        e.of(3, "false if it has not so many, or n is below 0.");
        Due.tell(x, "45");
        int[] wrong = {3, 4, -1, Edges.HIGH, Edges.LOW};
        for (int n : wrong) {
            e.is("end(" + n + ") of 2", x.end(n), false);
            e.is("signs", x.count(11), 2);
        }
        e.is("end(2) of 2", x.end(2), true);
        x.end(0);
        e.is("end(1) of none", x.end(1), false);
        e.is("end(-1) of none", x.end(-1), false);
    }

    private void fieldAnew() {
        e.of(4, "THE TEXT is THE FIELD anew: how many CELLS; there are no CAMPS, YEAR and LOST are 0, nothing can be undone, "
                + "nothing is kept, nothing was seen.");
        FieldKeepsCamps x = Due.with("56", "001110;111190");
        for (int i = 0; i < 3; i++) {
            x.keep(i);
        }
        x.years(1);
        x.marked(0, 1, 1);
        e.is("the least", Due.field(x, "33"), 9);
        int[] due = {3, 3, 0, 0, 0, 0, 0, 0, 0, 0};
        for (int what = 0; what < due.length; what++) {
            e.is("count(" + what + ")", x.count(what), due[what]);
        }
        for (int i = 0; i < 3; i++) {
            e.is("again(" + i + ")", x.again(i), false);
        }
        e.none("undo()", x, x::undo);
        e.is("marks that were wiped", x.wiped(), 0);
        e.is("the greatest", Due.field(x, "66"), 36);
        x.years(1);
        e.is("the same once more", Due.field(x, "66"), 36);
        e.is("YEAR", x.count(4), 0);
    }

    private void fieldRefused() {
        FieldKeepsCamps x = Due.with("56", "001110");
        x.years(1);
        x.keep(0);
        x.marked(0, 1, 1);
        e.of(4, "-1 - p: the sign at p can't stand there (its end, if it ends too early; a third sign: at it).");
        String[] bad = {"", "2", "7", "/", ":", "\u0000", "x3", "3", "6", "32", "37", "3/", "3:", "3x", "323", "333", "666",
            "33 ", "33\u0000", "3333", "23", "73", "233"};
        int[] at = {0, 0, 0, 0, 0, 0, 0, 1, 1, 1, 1, 1, 1, 1, 1, 2, 2,
            2, 2, 2, 0, 0, 0};
        for (int i = 0; i < bad.length; i++) {
            String text = bad[i];
            e.answers("field() of " + text, x, () -> Due.field(x, text), -1 - at[i]);
            e.is("signs", x.count(11), 0);
        }
        e.is("what was kept is there", x.again(0), true);
    }

    private void campsTold() {
        e.of(5, "THE TEXT tells of CAMPS (an empty one: nothing): how many LINES.");
        FieldKeepsCamps x = new FieldKeepsCamps();
        x.years(1);
        x.keep(0);
        e.answers("none", x, () -> Due.camps(x, ""), 0);
        e.is("what was kept is there", x.again(0), true);
        e.is("one LINE", Due.camps(x, "001110"), 1);
        e.is("CAMPS", x.count(2), 1);
        e.is("seven LINES", Due.camps(x, FOUR + ";001110;001110;331120"), 7);
        e.is("CAMPS", x.count(2), 8);
        e.is("the last one", x.camp(7, 0), 15);
        e.answers("none, when there is no room", x, () -> Due.camps(x, ""), 0);
        Due.rule(x, "0");
        x.years(3);
        Due.field(x, "44");
        e.is("one LINE, where one was ahead of field()", Due.camps(x, "001110"), 1);
        e.is("AGE", x.camp(0, 5), 0);
        FieldKeepsCamps y = new FieldKeepsCamps();
        e.is("eight LINES", Due.camps(y, EIGHT), 8);
        e.is("they may CROSS", y.camp(0, 7), 254);
        e.of(5, "Nothing of it comes, if a LINE can't.");
        FieldKeepsCamps z = Due.with("44", "001110");
        z.keep(0);
        z.years(1);
        e.answers("the second can't", z, () -> Due.camps(z, "111110;441110"), -8);
        e.answers("the last can't", z, () -> Due.camps(z, FOUR + ";001110;00111"), -41);
        e.answers("the first can't", z, () -> Due.camps(z, "001100;111110"), -5);
        e.is("both can", Due.camps(z, "111110;331110"), 2);
        e.is("CAMPS", z.count(2), 3);
    }

    private void campsEndEarly() {
        e.of(5, "-1 - p: the sign at p can't stand there (its end, if it ends too early;");
        FieldKeepsCamps x = Due.with("44", "");
        String line = "001110";
        for (int n = 1; n < 6; n++) {
            String cut = line.substring(0, n);
            e.answers("camps() of " + cut, x, () -> Due.camps(x, cut), -1 - n);
            e.answers("camps() of a LINE and " + cut, x, () -> Due.camps(x, line + ";" + cut), -8 - n);
        }
        e.answers("a LINE and ;", x, () -> Due.camps(x, line + ";"), -8);
        for (int at = 0; at < 6; at++) {
            for (String sign : new String[] {"/", ":", ";", "x", " ", "-", "\u0000", "\u00ff", "\u00b1"}) {
                String bad = line.substring(0, at) + sign + line.substring(at + 1);
                int due = -1 - at;
                e.answers("camps() of " + bad, x, () -> Due.camps(x, bad), due);
            }
        }
        for (String sign : new String[] {"0", ":", ",", "\u0000"}) {
            e.answers("a LINE and " + sign, x, () -> Due.camps(x, line + sign + line), -7);
            e.answers("a LINE and " + sign + " alone", x, () -> Due.camps(x, line + sign), -7);
        }
        e.answers("signs that are none, behind the end", x, () -> Due.camps(x, line + ";" + line + ";x"), -15);
    }

    private void campsAtTheirDigits() {
        FieldKeepsCamps x = Due.with("35", "");
        e.of(5, "a ROW or COLUMN that is not there,");
        e.answers("ROW 3", x, () -> Due.camps(x, "301110"), -1);
        e.answers("ROW 9", x, () -> Due.camps(x, "901110"), -1);
        e.answers("COLUMN 5", x, () -> Due.camps(x, "051110"), -2);
        e.answers("COLUMN 9", x, () -> Due.camps(x, "09"), -2);
        e.is("ROW 2, COLUMN 4", Due.camps(x, "241110"), 1);
        e.of(5, "a HEIGHT or WIDTH of 0 or above 3,");
        e.answers("HEIGHT 0", x, () -> Due.camps(x, "000110"), -3);
        e.answers("HEIGHT 4", x, () -> Due.camps(x, "004110"), -3);
        e.answers("HEIGHT 0 and WIDTH 0", x, () -> Due.camps(x, "000010"), -3);
        e.answers("WIDTH 0", x, () -> Due.camps(x, "001010"), -4);
        e.answers("WIDTH 4", x, () -> Due.camps(x, "001410"), -4);
        e.answers("WIDTH 9", x, () -> Due.camps(x, "001910"), -4);
        e.is("HEIGHT 1, WIDTH 3", Due.camps(x, "001310"), 1);
        e.is("HEIGHT 3, WIDTH 1", Due.camps(x, "003110"), 1);
        e.of(5, "or by which it is not in THE FIELD,");
        e.answers("HEIGHT 3 from ROW 1", x, () -> Due.camps(x, "103110"), -3);
        e.answers("HEIGHT 2 from ROW 2", x, () -> Due.camps(x, "202"), -3);
        e.answers("WIDTH 3 from COLUMN 3", x, () -> Due.camps(x, "031310"), -4);
        e.answers("WIDTH 2 from COLUMN 4", x, () -> Due.camps(x, "0412"), -4);
        e.is("HEIGHT 2 from ROW 1, WIDTH 3 from COLUMN 2", Due.camps(x, "122310"), 1);
        e.of(5, "STRENGTH 0: at its digit;");
        e.answers("STRENGTH 0", x, () -> Due.camps(x, "001100"), -5);
        e.answers("STRENGTH 0 at the end", x, () -> Due.camps(x, "00110"), -5);
        e.answers("STRENGTH 0 of a second LINE", x, () -> Due.camps(x, "001110;001100"), -12);
        e.is("STRENGTH 1, STRENGTH 9", Due.camps(x, "001110;001199"), 2);
    }

    private void campsWithoutRoom() {
        e.of(5, "the first sign of a LINE for which there is no room;");
        FieldKeepsCamps x = Due.with("44", FOUR + ";001110;001110;001110");
        e.answers("two more than seven", x, () -> Due.camps(x, "001110;001110"), -8);
        e.answers("two more, the second is no LINE", x, () -> Due.camps(x, "001110;x"), -8);
        e.answers("two more, the first can't", x, () -> Due.camps(x, "001100;001110"), -5);
        e.is("one more than seven", Due.camps(x, "001110"), 1);
        e.answers("one more than eight", x, () -> Due.camps(x, "001110"), -1);
        e.answers("one sign more than eight", x, () -> Due.camps(x, "0"), -1);
        FieldKeepsCamps y = Due.with("44", "001110");
        e.answers("eight more than one", y, () -> Due.camps(y, EIGHT), -50);
        e.answers("nine more than one", y, () -> Due.camps(y, EIGHT + ";001110"), -50);
        e.of(5, "55, if it has more and the first 55 could go on or end).");
        FieldKeepsCamps z = Due.with("44", "");
        e.answers("56 signs", z, () -> Due.camps(z, EIGHT + ";"), -56);
        e.answers("56 signs, the last is none", z, () -> Due.camps(z, EIGHT + "x"), -56);
        e.answers("62 signs", z, () -> Due.camps(z, EIGHT + ";001110"), -56);
        e.answers("80 signs", z, () -> Due.camps(z, EIGHT + "0".repeat(25)), -56);
        e.answers("56 signs, of which the 55th can't stand", z, () -> Due.camps(z, EIGHT.substring(0, 54) + ";0"), -55);
        e.answers("56 signs, of which the 54th can't stand", z, () -> Due.camps(z, EIGHT.substring(0, 53) + "000"), -54);
        e.is("55 signs", Due.camps(z, EIGHT), 8);
    }

    private void rule() {
        e.of(6, "THE TEXT is THE RULE (an empty one: none): 0.");
        FieldKeepsCamps x = Due.with("44", "001190");
        e.is("a rule of one sign", Due.rule(x, "4"), 0);
        e.is("LOSS by it", x.camp(0, 6), 4);
        e.is("none", Due.rule(x, ""), 0);
        e.is("LOSS by none", x.camp(0, 6), 1);
        FieldKeepsCamps y = Due.with("44", "001190;001190;001190");
        Due.rule(y, "1+".repeat(19) + "12");
        e.is("LOSS by a long one", y.camp(0, 6), 9);
        e.is("none behind a long one", Due.rule(y, ""), 0);
        e.is("LOSS by none of one that CROSSES two", y.camp(0, 6), 2);
        e.of(6, "-1 - p: the sign at p can't stand there (its end, if it ends too early;");
        Due.rule(x, "7");
        String[] bad = {"z", "\u0000", " ", "1z", "1+z", "1+", "1<", "(", "(1", "(1+", "-", "1*", "1)", "(1))", "1<2<3",
            "1234", "((((("};
        int[] at = {0, 0, 0, 1, 2, 2, 2, 1, 2, 3, 1, 2, 1, 3, 3,
            3, 4};
        for (int i = 0; i < bad.length; i++) {
            String text = bad[i];
            e.answers("rule() of " + text, x, () -> Due.rule(x, text), -1 - at[i]);
            e.is("signs", x.count(11), 0);
        }
        e.is("LOSS as before", x.camp(0, 6), 7);
    }

    private void ruleTooLong() {
        e.of(6, "40, if it has more and the first 40 could go on or end).");
        FieldKeepsCamps x = Due.with("44", "001190");
        Due.rule(x, "7");
        String ends = "1+".repeat(19) + "12";
        String goesOn = "1+".repeat(20);
        String open = "(" + "1+".repeat(19) + "1";
        String letter = "1+".repeat(19) + "1-";
        String[] bad = {ends + "3", ends + "+", ends + "z", ends + "\u0000", goesOn, goesOn + "1", open, open + ")",
            letter, letter + "s", "-".repeat(40), "-".repeat(41), ends + "+".repeat(40)};
        for (String text : bad) {
            e.answers("rule() of " + text, x, () -> Due.rule(x, text), -41);
        }
        e.answers("the 40th can't stand", x, () -> Due.rule(x, ends.substring(0, 39) + "z+1"), -40);
        e.answers("the 40th can't stand, a fourth digit", x, () -> Due.rule(x, "1+".repeat(18) + "1234+"), -40);
        e.is("LOSS as before", x.camp(0, 6), 7);
        e.is("40 signs that end", Due.rule(x, ends), 0);
        e.is("40 signs that end with )", Due.rule(x, "(" + "1+".repeat(18) + "12" + ")"), 0);
        e.is("39 signs", Due.rule(x, "1+".repeat(19) + "1"), 0);
    }

    private void camp() {
        e.of(7, "Of a CAMP, what 0: its first CELL, 1: HEIGHT, 2: WIDTH, 3: STRENGTH, 4: SLIP, 5: AGE,");
        FieldKeepsCamps x = Due.with("66", "143265");
        Due.rule(x, "0");
        x.years(4);
        int[] due = {10, 3, 2, 6, 5, 4};
        for (int what = 0; what < due.length; what++) {
            e.is("camp(0, " + what + ")", x.camp(0, what), due[what]);
        }
        e.of(7, "6: LOSS now (0 if it is not ON),");
        Due.rule(x, "5");
        x.treads(0, 5);
        e.is("LOSS at STRENGTH 1", x.camp(0, 6), 5);
        x.treads(0, 1);
        e.is("LOSS at STRENGTH 0", x.camp(0, 6), 0);
        e.of(7, "7: CAMPS that it CROSSES (bits).");
        FieldKeepsCamps y = Due.with("33", "001110;002210;111110;221110");
        e.is("of the first", y.camp(0, 7), 2);
        e.is("of the second", y.camp(1, 7), 5);
        e.is("of one beside", y.camp(3, 7), 0);
        y.treads(1, 1);
        e.is("of one that is not ON", y.camp(1, 7), 0);
        e.is("of one whose other is not ON", y.camp(0, 7), 0);
        e.of(7, "NoSuchElementException: none such, another what.");
        int[] wrong = {-1, 4, 8, Edges.HIGH, Edges.LOW};
        for (int camp : wrong) {
            e.noSuch("camp(" + camp + ", 0)", y, () -> y.camp(camp, 0));
            e.noSuch("camp(" + camp + ", 7)", y, () -> y.camp(camp, 7));
        }
        for (int what : new int[] {-1, 8, Edges.HIGH, Edges.LOW}) {
            e.noSuch("camp(0, " + what + ")", y, () -> y.camp(0, what));
        }
        e.is("the last one", y.camp(3, 0), 8);
    }

    private void cell() {
        FieldKeepsCamps x = Due.with("35", "001330;021350;041150;001120");
        e.of(8, "Of a CELL, what 0: CAMPS that are ON and lie over it (bits), 1: their STRENGTH together,");
        int[] bits = {9, 1, 3, 2, 6, 0};
        int[] strength = {5, 3, 8, 5, 10, 0};
        for (int cell = 0; cell < bits.length; cell++) {
            e.is("cell(" + cell + ", 0)", x.cell(cell, 0), bits[cell]);
            e.is("cell(" + cell + ", 1)", x.cell(cell, 1), strength[cell]);
        }
        e.of(8, "2: the one of them with the most STRENGTH (of equal ones the first; NONE).");
        int[] most = {0, 0, 1, 1, 1, -1};
        for (int cell = 0; cell < most.length; cell++) {
            e.is("cell(" + cell + ", 2)", x.cell(cell, 2), most[cell]);
        }
        x.sings(2, 1);
        e.is("the second of two that are not equal", x.cell(4, 2), 2);
        x.treads(1, 5);
        e.is("cell(3, 2) with one that is not ON", x.cell(3, 2), -1);
        e.is("cell(3, 0) with one that is not ON", x.cell(3, 0), 0);
        e.is("cell(2, 2) with one that is not ON", x.cell(2, 2), 0);
        e.of(8, "NoSuchElementException: likewise.");
        e.is("the last CELL", x.cell(14, 2), -1);
        for (int cell : new int[] {-1, 15, 16, Edges.HIGH, Edges.LOW}) {
            e.noSuch("cell(" + cell + ", 0)", x, () -> x.cell(cell, 0));
            e.noSuch("cell(" + cell + ", 2)", x, () -> x.cell(cell, 2));
        }
        for (int what : new int[] {-1, 3, Edges.HIGH, Edges.LOW}) {
            e.noSuch("cell(0, " + what + ")", x, () -> x.cell(0, what));
        }
    }

    private void sheetEntries() {
        FieldKeepsCamps x = Due.with("44", "001150;011150;021150");
        e.of(9, "STRENGTHS of CAMPS 0, 1, .., as a sheet tells them: bytes (kind 0), shorts (1), ints (2) of n entries f, "
                + "f + step, ..");
        for (int kind = 0; kind <= 2; kind++) {
            e.is("three of kind " + kind, x.sheet(kind, 3, 2, 3), 15);
            e.strengths(x, 2, 5, 8);
            e.is("three that go down", x.sheet(kind, 3, 7, -3), 12);
            e.strengths(x, 7, 4, 1);
        }
        e.of(9, "(of bytes, shorts the lowest bits, with their sign; put to 0 .. 9)");
        int[] entries = {-1, 0, 1, 9, 10, 127, 128, 255, 256, 257, 265, 266, -128, -129, -256, -251, 32767, 32768, 65535,
            65536, 65537, 65545, 65546, -32768, -32769, -65536, -65531, Edges.HIGH, Edges.LOW, 1 << 24};
        int[] bytes = {0, 0, 1, 9, 9, 9, 0, 0, 0, 1, 9, 9, 0, 9, 0, 5, 0, 0, 0,
            0, 1, 9, 9, 0, 0, 0, 5, 0, 0, 0};
        int[] shorts = {0, 0, 1, 9, 9, 9, 9, 9, 9, 9, 9, 9, 0, 0, 0, 0, 9, 0, 0,
            0, 1, 9, 9, 0, 9, 0, 5, 0, 0, 0};
        int[] ints = {0, 0, 1, 9, 9, 9, 9, 9, 9, 9, 9, 9, 0, 0, 0, 0, 9, 9, 9,
            9, 9, 9, 9, 0, 0, 0, 0, 9, 0, 9};
        for (int i = 0; i < entries.length; i++) {
            e.is("the byte of " + entries[i], x.sheet(0, 1, entries[i], 0), bytes[i]);
            e.is("the short of " + entries[i], x.sheet(1, 1, entries[i], 0), shorts[i]);
            e.is("the int of " + entries[i], x.sheet(2, 1, entries[i], 0), ints[i]);
        }
        e.is("ints that wrap around", x.sheet(2, 3, Edges.HIGH, 1), 9);
        e.strengths(x, 9, 0, 0);
        e.is("bytes that wrap around", x.sheet(0, 3, 127, 130), 10);
        e.strengths(x, 9, 1, 0);
        e.is("shorts that wrap around", x.sheet(1, 3, 32767, 32771), 11);
        e.strengths(x, 9, 2, 0);
        e.of(9, "or a missing one (3): those behind it have 0: the sum of all.");
        e.is("none of three", x.sheet(2, 0, 5, 0), 0);
        e.strengths(x, 0, 0, 0);
        x.sheet(2, 3, 5, 0);
        e.is("one of three", x.sheet(2, 1, 5, 0), 5);
        e.strengths(x, 5, 0, 0);
        x.sheet(2, 3, 5, 0);
        e.is("two of three", x.sheet(2, 2, 5, 0), 10);
        e.strengths(x, 5, 5, 0);
        e.is("three of three", x.sheet(2, 3, 5, 0), 15);
        e.is("more than there are CAMPS", x.sheet(2, 4, 5, 0), 15);
        e.is("CAMPS stay three", x.count(2), 3);
        FieldKeepsCamps y = Due.with("44", EIGHT);
        e.is("eight of eight", y.sheet(2, 8, 9, 0), 72);
        e.is("seven of eight", y.sheet(2, 7, 9, 0), 63);
        e.is("STRENGTH of all", y.count(6), 63);
        e.is("LOST", y.count(5), 0);
    }

    private void sheetRefused() {
        FieldKeepsCamps x = Due.with("44", "001150;011150;021150");
        e.of(9, "-2: n below 0 (of kinds 0 .. 2; nothing changes);");
        for (int kind = 0; kind <= 2; kind++) {
            int of = kind;
            e.answers("kind " + kind + ", n -1", x, () -> x.sheet(of, -1, 1, 1), -2);
            e.answers("kind " + kind + ", the least n", x, () -> x.sheet(of, Edges.LOW, 1, 1), -2);
        }
        e.strengths(x, 5, 5, 5);
        e.of(9, "NONE: another kind, n above 8 (these first).");
        e.none("kind 4", x, () -> x.sheet(4, 1, 1, 1));
        e.none("kind -1", x, () -> x.sheet(-1, 1, 1, 1));
        e.none("the greatest kind", x, () -> x.sheet(Edges.HIGH, 1, 1, 1));
        e.none("the least kind", x, () -> x.sheet(Edges.LOW, 1, 1, 1));
        e.none("kind 4, n below 0", x, () -> x.sheet(4, -1, 1, 1));
        for (int kind = 0; kind <= 3; kind++) {
            int of = kind;
            e.none("kind " + kind + ", n 9", x, () -> x.sheet(of, 9, 1, 1));
            e.none("kind " + kind + ", the greatest n", x, () -> x.sheet(of, Edges.HIGH, 1, 1));
        }
        e.is("n 8", x.sheet(0, 8, 1, 1), 6);
        e.of(9, "-3: missing (all 0).");
        for (int n : new int[] {8, 0, -1, Edges.LOW}) {
            x.sheet(2, 3, 5, 0);
            e.is("missing, n " + n, x.sheet(3, n, 5, 5), -3);
            e.strengths(x, 0, 0, 0);
        }
        e.is("what can be undone", x.count(9), 0);
    }
}
