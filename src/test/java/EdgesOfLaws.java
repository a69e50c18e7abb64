/** Boundary cases of promises 33 to 39: which laws of thinning fit, what to look at next, whose night it is. */
final class EdgesOfLaws {
    private final Edges e;

    EdgesOfLaws(Edges e) {
        this.e = e;
    }

    void check() {
        marked();
        markedRefused();
        wiped();
        laws();
        watch();
        watchFar();
        heard();
        forget();
        fits();
    }

    private void marked() {
        e.of(33, "It was seen of a CAMP that in n YEARS (0 .. 30) from now it is ON (is 1) or not (0; one that is not there when "
                + "it is asked is not), by some such law: how many such.");
        FieldKeepsCamps x = Due.with("44", "001190");
        e.is("n 0, is 1", x.marked(0, 0, 1), 1);
        e.told("it is ON now", x, x.laws(), 16, 0, 0);
        e.is("n 0, is 0", x.marked(0, 0, 0), 2);
        e.told("it is not ON now", x, x.laws(), 0);
        x.wiped();
        e.is("n 30, is 1", x.marked(0, 30, 1), 1);
        e.told("it is ON in 30", x, x.laws(), 4, 0, 0);
        x.wiped();
        e.is("n 30, is 0", x.marked(0, 30, 0), 1);
        e.told("it is not ON in 30", x, x.laws(), 12, 1, 0);
        x.wiped();
        e.is("n 9, is 1", x.marked(0, 8, 1), 1);
        e.told("it is ON in 8: a is 0 or 1", x, x.laws(), 8, 0, 0);
        x.wiped();
        e.is("n 9, is 0", x.marked(0, 9, 0), 1);
        e.told("it is not ON in 9: a is not 0", x, x.laws(), 12, 1, 0);
        x.wiped();
        x.pitch(15, 1, 1, 9, 0);
        x.marked(1, 0, 1);
        e.told("one that is there", x, x.laws(), 16, 0, 0);
        x.undo();
        e.told("one that is not there is not ON", x, x.laws(), 0);
        x.wiped();
        x.pitch(15, 1, 1, 9, 0);
        x.marked(1, 0, 0);
        e.told("one that is there is ON", x, x.laws(), 0);
        x.undo();
        e.told("one that is not there is not ON, as it was marked", x, x.laws(), 16, 0, 0);
    }

    private void markedRefused() {
        e.of(33, "Refused: others, 10.");
        FieldKeepsCamps x = Due.with("44", "001190;111110");
        x.treads(1, 1);
        for (int camp : new int[] {-1, 2, 8, Edges.HIGH, Edges.LOW}) {
            e.none("CAMP " + camp, x, () -> x.marked(camp, 0, 0));
        }
        for (int n : new int[] {-1, 31, Edges.HIGH, Edges.LOW}) {
            e.none("n " + n, x, () -> x.marked(0, n, 0));
        }
        for (int is : new int[] {-1, 2, Edges.HIGH, Edges.LOW}) {
            e.none("is " + is, x, () -> x.marked(0, 0, is));
        }
        e.is("one that is not ON", x.marked(1, 30, 1), 1);
        for (int i = 2; i <= 10; i++) {
            e.is("the same again", x.marked(0, 0, 1), i);
        }
        e.none("an eleventh", x, () -> x.marked(0, 0, 1));
        x.wiped();
        e.is("when they are wiped", x.marked(0, 0, 1), 1);
        FieldKeepsCamps y = new FieldKeepsCamps();
        e.none("no CAMPS", y, () -> y.marked(0, 0, 0));
    }

    private void wiped() {
        e.of(34, "Marks are wiped: how many there were.");
        FieldKeepsCamps x = Due.with("44", "001190");
        e.is("none", x.wiped(), 0);
        x.marked(0, 0, 0);
        e.is("one", x.wiped(), 1);
        e.is("none", x.wiped(), 0);
        e.told("laws() of none", x, x.laws(), 16, 0, 0);
        for (int i = 0; i < 10; i++) {
            x.marked(0, i, 1);
        }
        e.is("ten", x.wiped(), 10);
        e.is("marks", x.count(7), 0);
    }

    private void laws() {
        e.of(35, "Laws by which (instead of THE RULE, from now on) all would be so as it was marked: how many; the ROW: the least "
                + "a, b (nothing without).");
        FieldKeepsCamps x = new FieldKeepsCamps();
        e.told("no CAMPS, no marks", x, x.laws(), 16, 0, 0);
        Due.camps(x, "001160;001190;331160");
        Due.rule(x, "9");
        x.marked(2, 2, 1);
        e.told("instead of THE RULE: a is not 3", x, x.laws(), 12, 0, 0);
        x.marked(2, 3, 0);
        e.told("a is 2", x, x.laws(), 4, 2, 0);
        x.marked(0, 2, 0);
        e.told("a is 2, and b 1 or more", x, x.laws(), 3, 2, 1);
        x.marked(0, 1, 1);
        e.told("of STRENGTH 6 it is ON in 1 by all", x, x.laws(), 3, 2, 1);
        x.marked(1, 2, 0);
        e.told("of STRENGTH 9 it is gone in 2 by 3", x, x.laws(), 1, 2, 3);
        x.marked(1, 1, 0);
        e.told("and in 1 by none", x, x.laws(), 0);
        x.wiped();
        x.marked(2, 3, 1);
        e.told("a is 0 or 1", x, x.laws(), 8, 0, 0);
        Due.rule(x, "0");
        x.years(10);
        e.told("from now on: YEARS that went by count nothing", x, x.laws(), 8, 0, 0);
    }

    private void watch() {
        e.of(36, "-2: none fits, or there are no CAMPS.");
        FieldKeepsCamps x = new FieldKeepsCamps();
        e.answers("no CAMPS", x, x::watch, -2);
        Due.camps(x, "001160");
        e.told("a CAMP", x, x.watch(), 3, 8);
        x.marked(0, 0, 0);
        e.answers("none fits", x, x::watch, -2);
        x.wiped();
        x.marked(0, 2, 0);
        e.told("four fit: a is 3", x, x.watch(), 0, 4);
        e.of(36, "31 times CAMP and YEAR, of equal ones the least; the ROW: how many at most.");
        x.wiped();
        x.treads(0, 6);
        e.told("one that is not ON: nothing is to be seen", x, x.watch(), 0, 16);
        Due.camps(x, "111160;221160");
        e.told("of two that are alike the first", x, x.watch(), 31 + 3, 8);
        x.treads(1, 6);
        e.told("the other", x, x.watch(), 62 + 3, 8);
        x.treads(2, 3);
        // of STRENGTH 3: gone in 3 by 1, in 2 by 2, in 1 by 3
        e.told("eight by eight in 2", x, x.watch(), 62 + 2, 8);
    }

    private void watchFar() {
        e.of(36, "What to look at next: the CAMP and the YEAR (0 .. 30 from now), so that, ON or not, the fewest such laws are "
                + "left at most:");
        // the last one comes over the first when its AGE is 30: it is thinned by b in the YEAR from 30 on
        String others = "101190;111190;121190;131190;141190;151190";
        FieldKeepsCamps x = Due.with("66", "051190;" + others + ";001116");
        Due.rule(x, "0");
        x.marked(7, 29, 1);
        e.told("it could be seen in 31 alone", x, x.watch(), 0, 4);
        x.years(1);
        e.told("it can be seen in 30", x, x.watch(), 31 * 7 + 30, 3);
        x.years(1);
        x.wiped();
        x.marked(7, 28, 1);
        e.told("it can be seen in 29", x, x.watch(), 31 * 7 + 29, 3);
        FieldKeepsCamps y = Due.with("33", "001110");
        // gone by all but a of 0 in 1: twelve and four; now all of them
        e.told("in 1 the first", y, y.watch(), 1, 12);
    }

    private void heard() {
        FieldKeepsCamps x = new FieldKeepsCamps();
        e.of(37, "It was heard of a night that it is one of a CAMP, what 0: whose STRENGTH is v (0 .. 9) or less; 1: over ROW v "
                + "(0 .. 5); 2: over COLUMN v (0 .. 5); 3: whose AGE is v (0 .. 99) or more; 4: that CROSSES v (0 .. 7) others or "
                + "more: how many such.");
        int[] most = {9, 5, 5, 99, 7};
        for (int what = 0; what < 5; what++) {
            int of = what;
            e.is("heard(" + what + ", 0)", x.heard(what, 0), 1);
            e.is("heard(" + what + ", " + most[what] + ")", x.heard(what, most[what]), 2);
            e.none("heard(" + what + ", -1)", x, () -> x.heard(of, -1));
            e.none("heard(" + what + ", " + (most[what] + 1) + ")", x, () -> x.heard(of, most[of] + 1));
            e.none("heard() of the greatest v", x, () -> x.heard(of, Edges.HIGH));
            e.none("heard() of the least v", x, () -> x.heard(of, Edges.LOW));
            x.forget();
        }
        e.of(37, "Refused: others, 12.");
        for (int what : new int[] {-1, 5, Edges.HIGH, Edges.LOW}) {
            e.none("heard(" + what + ", 0)", x, () -> x.heard(what, 0));
            e.none("heard(" + what + ", -1)", x, () -> x.heard(what, -1));
        }
        for (int i = 1; i <= 12; i++) {
            e.is("the same again", x.heard(0, 0), i);
        }
        e.none("a thirteenth", x, () -> x.heard(0, 0));
        x.forget();
        e.is("when it is forgotten", x.heard(0, 0), 1);
    }

    private void forget() {
        e.of(38, "It is forgotten: how many there were.");
        FieldKeepsCamps x = Due.with("44", "001190");
        e.is("nothing", x.forget(), 0);
        x.heard(0, 0);
        e.told("what was heard", x, x.fits(), 0, 0);
        e.is("one", x.forget(), 1);
        e.is("nothing", x.forget(), 0);
        e.told("nothing was heard", x, x.fits(), 1, 1);
        for (int i = 0; i < 12; i++) {
            x.heard(0, i % 10);
        }
        e.is("twelve", x.forget(), 12);
        e.is("what was heard", x.count(8), 0);
    }

    /** Whether the first camp fits, if this alone was heard. */
    private void fit(FieldKeepsCamps x, int what, int v, boolean fits) {
        x.forget();
        x.heard(what, v);
        long others = x.count(2) > 1 ? x.fits() & ~1L : 0;
        int bit = x.fits() & 1;
        e.is("the first fits " + v + " of what " + what, bit, fits ? 1 : 0);
        e.is("how many", x.row(0), Long.bitCount(others) + bit);
    }

    private void fits() {
        e.of(39, "CAMPS (bits) that are ON and fit all that was heard; the ROW: how many.");
        FieldKeepsCamps x = new FieldKeepsCamps();
        e.told("no CAMPS", x, x.fits(), 0, 0);
        Due.field(x, "66");
        Due.camps(x, "122350");
        for (int v = 0; v <= 9; v++) {
            fit(x, 0, v, v >= 5);
        }
        for (int v = 0; v <= 5; v++) {
            fit(x, 1, v, v == 1 || v == 2);
            fit(x, 2, v, v >= 2 && v <= 4);
        }
        Due.rule(x, "0");
        for (int age = 0; age <= 3; age++) {
            fit(x, 3, age, true);
            fit(x, 3, age + 1, false);
            x.years(1);
        }
        x.years(60);
        x.years(34);
        fit(x, 3, 99, false);
        x.years(1);
        fit(x, 3, 99, true);
        Due.field(x, "33");
        Due.camps(x, "001110;001110;001110;001110;001110;001110;001110;001110");
        for (int camp = 7; camp >= 0; camp--) {
            for (int v = 0; v <= 7; v++) {
                fit(x, 4, v, v <= camp);
            }
            x.treads(camp, 1);
        }
        x.forget();
        e.told("none is ON", x, x.fits(), 0, 0);
        FieldKeepsCamps y = Due.with("44", "001150;111160;331140");
        e.told("nothing was heard", y, y.fits(), 7, 3);
        y.heard(0, 5);
        e.told("of two things the first", y, y.fits(), 5, 2);
        y.heard(1, 3);
        e.told("both", y, y.fits(), 4, 1);
        y.heard(1, 0);
        e.told("all of them", y, y.fits(), 0, 0);
    }
}
