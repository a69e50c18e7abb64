/** Promises 23 to 27: room for a new camp, and when, where it would cross the least, the largest room. */
final class SpaceTest {
    private static final Due DUE = new Due("room");

    public static void main(String[] args) {
        rooms();
        whens();
        leasts();
        largests();
        made();
        DUE.finish();
    }

    private static void rooms() {
        FieldKeepsCamps x = Due.with("36", "");
        DUE.told("room(3, 3)", x, x.room(3, 3), 0, 4);
        DUE.told("room(1, 1)", x, x.room(1, 1), 0, 18);
        DUE.told("room(2, 3)", x, x.room(2, 3), 0, 8);
        int[] wrong = {0, 4, -1, Integer.MAX_VALUE, Integer.MIN_VALUE};
        for (int side : wrong) {
            DUE.told("room(" + side + ", 1)", x, x.room(side, 1), -1, 8);
            DUE.told("room(1, " + side + ")", x, x.room(1, side), -1, 8);
        }
        Due.camps(x, "111250");
        DUE.told("room(1, 3)", x, x.room(1, 3), 0, 9);
        DUE.told("room(3, 1)", x, x.room(3, 1), 0, 4);
        DUE.told("room(2, 2)", x, x.room(2, 2), 3, 4);
        DUE.told("room(3, 3)", x, x.room(3, 3), 3, 1);
        Due.camps(x, "251110");
        DUE.told("room(3, 3), nowhere", x, x.room(3, 3), -2, 1);
        x.treads(1, 1);
        DUE.told("over one that is not ON", x, x.room(3, 3), 3, 1);
    }

    private static void whens() {
        FieldKeepsCamps x = Due.with("33", "111170;221180");
        DUE.told("when(1, 3)", x, x.when(1, 3), 0, 0);
        DUE.told("when(2, 2)", x, x.when(2, 2), 7, 0);
        DUE.told("when(3, 3)", x, x.when(3, 3), 8, 0);
        DUE.told("when(3, 2)", x, x.when(3, 2), 7, 0);
        DUE.told("when(2, 3)", x, x.when(2, 3), 7, 0);
        Due.rule(x, "(a=98)*9");
        DUE.told("when(3, 3) in 99", x, x.when(3, 3), 99, 0);
        Due.rule(x, "(a=99)*9");
        DUE.told("when(3, 3), never", x, x.when(3, 3), -2, 0);
        DUE.told("when(0, 3)", x, x.when(0, 3), -1, 0);
        DUE.told("when(3, 4)", x, x.when(3, 4), -1, 0);
        // one that slips away
        FieldKeepsCamps y = Due.with("33", "013193;001190");
        Due.rule(y, "0");
        DUE.told("when(3, 2)", y, y.when(3, 2), 6, 1);
    }

    private static void leasts() {
        FieldKeepsCamps x = Due.with("44", "002231;112252;031190");
        DUE.told("least(2, 2)", x, x.least(2, 2), 8, 5, 2);
        DUE.told("least(1, 1)", x, x.least(1, 1), 2, 0, 0);
        DUE.told("least(3, 3)", x, x.least(3, 3), 5, 3 + 5 * 4, 3);
        DUE.told("least(0, 1)", x, x.least(0, 1), -1, 23, 3);
        DUE.told("least(1, 4)", x, x.least(1, 4), -1, 23, 3);
        FieldKeepsCamps y = Due.with("33", "003340;001120;111130");
        DUE.told("least(1, 1)", y, y.least(1, 1), 1, 4, 1);
        DUE.told("least(3, 3)", y, y.least(3, 3), 0, 41, 7);
        DUE.told("least(1, 2)", y, y.least(1, 2), 1, 8, 1);
        DUE.told("least(2, 1)", y, y.least(2, 1), 2, 8, 1);
        y.treads(0, 9);
        DUE.told("over one that is not ON", y, y.least(2, 2), 1, 3, 4);
    }

    private static void largests() {
        FieldKeepsCamps x = Due.with("65", "");
        DUE.told("the whole field", x, x.largest(), 30, 0, 6, 5);
        Due.camps(x, "221110");
        // beside it: two columns of six, above it two rows of five, below it three rows of five
        DUE.told("largest()", x, x.largest(), 15, 15, 3, 5);
        Due.camps(x, "421110");
        DUE.told("of equal ones the least row", x, x.largest(), 12, 0, 6, 2);
        FieldKeepsCamps y = Due.with("33", "003350");
        DUE.told("none", y, y.largest(), 0);
        y.treads(0, 5);
        DUE.told("all", y, y.largest(), 9, 0, 3, 3);
        FieldKeepsCamps z = Due.with("33", "001110;021110;111110;201110;221110");
        DUE.told("ones", z, z.largest(), 1, 1, 1, 1);
        z.treads(1, 1);
        DUE.told("one high before two high", z, z.largest(), 2, 1, 1, 2);
    }

    private static void made() {
        FieldKeepsCamps x = Due.with("44", "002231;112252;031190");
        DUE.told("makes(2, 2)", x, x.makes(2, 2), 1, 2);
        DUE.told("makes(1, 1)", x, x.makes(1, 1), 0, 0);
        DUE.told("makes(3, 3)", x, x.makes(3, 3), 2, 3);
        DUE.told("makes(4, 1)", x, x.makes(4, 1), -1, 3);
        DUE.told("makes(1, 0)", x, x.makes(1, 0), -1, 3);
        FieldKeepsCamps y = Due.with("33", "001110;011110;021110;111110;221110;201110");
        DUE.told("makes(3, 3)", y, y.makes(3, 3), 6, 63);
        DUE.told("makes(2, 2)", y, y.makes(2, 2), 2, 8 + 16);
        DUE.told("of as few the least", y, y.makes(1, 3), 1, 8);
        DUE.told("makes(3, 1)", y, y.makes(3, 1), 2, 2 + 8);
        y.treads(3, 1);
        DUE.told("one that is not ON", y, y.makes(1, 3), 0, 0);
    }
}
