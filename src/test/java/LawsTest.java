/** Promises 33 to 39: which laws of thinning fit, what to look at next, whose night it is. */
final class LawsTest {
    private static final Due DUE = new Due("laws");

    public static void main(String[] args) {
        marks();
        lawsThatFit();
        whatToWatch();
        whatIsHeard();
        whatFits();
        DUE.finish();
    }

    private static void marks() {
        FieldKeepsCamps x = Due.with("44", "001130;011130");
        DUE.is("wiped() of none", x.wiped(), 0);
        int[][] wrong = {{-1, 0, 0}, {2, 0, 0}, {0, -1, 0}, {0, 31, 0}, {0, 0, -1}, {0, 0, 2}};
        for (int[] of : wrong) {
            DUE.is("marked", x.marked(of[0], of[1], of[2]), -1);
        }
        for (int i = 1; i <= 10; i++) {
            DUE.is("marked", x.marked(i % 2, i * 3, i % 2), i);
            DUE.is("marks", x.count(7), i);
        }
        DUE.is("an eleventh", x.marked(0, 0, 1), -1);
        DUE.is("wiped()", x.wiped(), 10);
        DUE.is("wiped()", x.wiped(), 0);
        DUE.is("one that is not ON can be marked", x.treads(0, 9), 0);
        DUE.is("marked", x.marked(0, 30, 0), 1);
        DUE.is("the ROW", x.count(10), 0);
    }

    private static void lawsThatFit() {
        FieldKeepsCamps x = Due.with("44", "001160;001190;331160");
        DUE.told("laws()", x, x.laws(), 16, 0, 0);
        // camp 2 crosses none: it loses a; ON in 3: a below 2
        x.marked(2, 3, 1);
        DUE.told("a is 0 or 1", x, x.laws(), 4 * 1 + 4, 0, 0);
        x.marked(2, 10, 0);
        DUE.told("a is 1", x, x.laws(), 4, 1, 0);
        // camp 0 crosses one: it loses 1 + b
        x.marked(0, 2, 0);
        DUE.told("a is 1, b is 2 or 3", x, x.laws(), 2, 1, 2);
        x.marked(0, 1, 1);
        DUE.told("as before", x, x.laws(), 2, 1, 2);
        x.marked(1, 3, 1);
        DUE.told("b: 9 less 3 less 3, then alone", x, x.laws(), 1, 1, 2);
        x.marked(1, 5, 0);
        DUE.told("it is gone in 5", x, x.laws(), 1, 1, 2);
        x.marked(1, 4, 0);
        DUE.told("and not in 4", x, x.laws(), 0);
        DUE.told("nothing to watch", x, x.watch(), -2);
        DUE.is("wiped()", x.wiped(), 7);
        // the mark goes with what is asked now; one that is not there is not ON
        x.pitch(8, 1, 1, 5, 0);
        x.marked(3, 0, 1);
        DUE.told("it is ON now", x, x.laws(), 16, 0, 0);
        x.undo();
        DUE.told("it is not there", x, x.laws(), 0);
        x.wiped();
        x.marked(2, 3, 1);
        Due.rule(x, "0");
        x.years(3);
        DUE.told("from now on", x, x.laws(), 8, 0, 0);
        x.treads(2, 4);
        DUE.told("from now on", x, x.laws(), 4, 0, 0);
    }

    private static void whatToWatch() {
        FieldKeepsCamps x = new FieldKeepsCamps();
        DUE.told("no camps", x, x.watch(), -2);
        Due.camps(x, "001160");
        // it loses a: gone never, in 6, 3, 2: in 3, eight laws are left by which it is ON, eight by which not
        DUE.told("watch()", x, x.watch(), 3, 8);
        x.marked(0, 3, 1);
        DUE.told("watch()", x, x.watch(), 6, 4);
        x.marked(0, 6, 0);
        DUE.told("b can't be known", x, x.watch(), 0, 4);
        x.wiped();
        Due.camps(x, "331110;331190");
        // camps 1 and 2 cross: of STRENGTH 1 is gone in 1 but for a and b of 0
        DUE.told("watch()", x, x.watch(), 3, 8);
        x.marked(0, 3, 1);
        x.marked(0, 6, 0);
        DUE.told("a is 1: of 2 there is more to be seen", x, x.watch(), 31 * 2 + 7, 2);
    }

    private static void whatIsHeard() {
        FieldKeepsCamps x = new FieldKeepsCamps();
        DUE.is("forget() of none", x.forget(), 0);
        int[] most = {9, 5, 5, 99, 7};
        int heard = 0;
        for (int what = 0; what < 5; what++) {
            DUE.is("heard below", x.heard(what, -1), -1);
            DUE.is("heard above", x.heard(what, most[what] + 1), -1);
            DUE.is("heard", x.heard(what, 0), ++heard);
            DUE.is("heard", x.heard(what, most[what]), ++heard);
        }
        DUE.is("another what", x.heard(-1, 0), -1);
        DUE.is("another what", x.heard(5, 0), -1);
        DUE.is("heard", x.heard(0, 0), 11);
        DUE.is("heard", x.heard(0, 0), 12);
        DUE.is("a thirteenth", x.heard(0, 0), -1);
        DUE.is("what was heard", x.count(8), 12);
        DUE.is("forget()", x.forget(), 12);
        DUE.is("what was heard", x.count(8), 0);
    }

    private static void whatFits() {
        FieldKeepsCamps x = Due.with("44", "002230;112250;031190;331120");
        DUE.told("fits() of nothing heard", x, x.fits(), 15, 4);
        x.heard(0, 5);
        DUE.told("STRENGTH 5 or less", x, x.fits(), 11, 3);
        x.heard(1, 1);
        DUE.told("over ROW 1", x, x.fits(), 3, 2);
        x.heard(2, 2);
        DUE.told("over COLUMN 2", x, x.fits(), 2, 1);
        x.heard(4, 1);
        DUE.told("crosses one", x, x.fits(), 2, 1);
        x.heard(4, 2);
        DUE.told("crosses two", x, x.fits(), 0, 0);
        x.forget();
        x.heard(4, 0);
        x.heard(3, 0);
        DUE.told("AGE 0 or more", x, x.fits(), 15, 4);
        x.heard(3, 2);
        DUE.told("AGE 2 or more", x, x.fits(), 0, 0);
        x.years(1);
        x.pitch(8, 1, 1, 5, 0);
        x.years(1);
        // camp 3 is lost
        DUE.told("AGE 2 or more, ON", x, x.fits(), 7, 3);
        x.forget();
        x.heard(1, 5);
        DUE.told("a ROW that is not there", x, x.fits(), 0, 0);
    }
}
