/** Boundary cases of promises 45 to 48: what is kept, counts, the ROW; and an object's 512 calls. */
final class EdgesOfKept {
    private final Edges e;

    EdgesOfKept(Edges e) {
        this.e = e;
    }

    void check() {
        keep();
        again();
        againRefused();
        count();
        row();
        manyCalls();
    }

    private void keep() {
        e.of(45, "What undo() brings back is kept under a number 0 .. 2: true.");
        FieldKeepsCamps x = Due.with("44", "001190");
        for (int i = 0; i <= 2; i++) {
            e.is("keep(" + i + ")", x.keep(i), true);
            x.years(1);
        }
        for (int i = 2; i >= 0; i--) {
            e.is("again(" + i + ")", x.again(i), true);
            e.is("YEAR", x.count(4), i);
        }
        e.of(45, "Refused: others.");
        for (int i : new int[] {-1, 3, Edges.HIGH, Edges.LOW}) {
            e.none("keep(" + i + ")", x, () -> x.keep(i) ? 1 : -1);
            e.none("again(" + i + ")", x, () -> x.again(i) ? 1 : -1);
        }
    }

    private void again() {
        e.of(46, "It is as it was kept under a number.");
        FieldKeepsCamps x = Due.with("44", "001131;331150");
        x.keep(0);
        long[] first = Edges.all(x);
        x.years(5);
        x.pitch(8, 1, 1, 4, 0);
        x.moves(1, 3);
        x.sings(0, 9);
        e.is("again(0)", x.again(0), true);
        long[] then = Edges.all(x);
        for (int i = 0; i < 11 + 64; i++) {
            e.is("number " + i + " of the state", i == 10 ? 0 : then[i], i == 10 ? 0 : first[i]);
        }
        x.years(1);
        x.keep(0);
        x.years(1);
        e.is("again(0), kept anew", x.again(0), true);
        e.is("YEAR", x.count(4), 1);
        e.is("again(0) once more", x.again(0), true);
        e.is("YEAR", x.count(4), 1);
        x.marked(0, 1, 1);
        x.heard(0, 1);
        Due.rule(x, "3");
        x.again(0);
        e.is("marks stay", x.count(7), 1);
        e.is("what was heard stays", x.count(8), 1);
        e.is("THE RULE stays", x.camp(0, 6), 3);
    }

    private void againRefused() {
        e.of(46, "Refused: nothing kept, THE FIELD or CAMPS told came since.");
        FieldKeepsCamps x = Due.with("44", "001131");
        e.none("nothing kept", x, () -> x.again(0) ? 1 : -1);
        x.keep(1);
        e.none("nothing kept under 0", x, () -> x.again(0) ? 1 : -1);
        e.none("nothing kept under 2", x, () -> x.again(2) ? 1 : -1);
        e.is("kept under 1", x.again(1), true);
        Due.field(x, "4");
        Due.camps(x, "00111");
        Due.camps(x, "");
        Due.rule(x, "2");
        Due.story(x, "n1p331110");
        e.is("refused, empty and other texts", x.again(1), true);
        e.is("CAMPS", x.count(2), 1);
        Due.camps(x, "331110");
        e.none("CAMPS were told", x, () -> x.again(1) ? 1 : -1);
        x.keep(2);
        e.none("kept under 1 is not back", x, () -> x.again(1) ? 1 : -1);
        e.is("kept since", x.again(2), true);
        Due.field(x, "44");
        e.none("THE FIELD was told", x, () -> x.again(2) ? 1 : -1);
    }

    private void count() {
        e.of(47, "What 0: ROWS, 1: COLUMNS, 2: CAMPS, 3: how many are ON, 4: YEAR, 5: LOST, 6: STRENGTH of all, 7: marks, 8: what "
                + "was heard, 9: what can be undone, 10: numbers of the ROW, 11: signs of THE TEXT.");
        FieldKeepsCamps x = Due.with("36", "001110;011120;021190;031190");
        x.years(1);
        x.years(1);
        x.years(1);
        x.years(1);
        x.sings(0, 1);
        for (int i = 0; i < 10; i++) {
            x.marked(0, i, 1);
        }
        for (int i = 0; i < 7; i++) {
            x.heard(0, i);
        }
        Due.tell(x, "12345678");
        // LOST: two of four; one was sung to
        int[] due = {3, 6, 4, 3, 4, 2, 11, 10, 7, 5, 2, 8};
        for (int what = 0; what < due.length; what++) {
            e.is("count(" + what + ")", x.count(what), due[what]);
        }
        e.of(47, "-100 for another what.");
        for (int what : new int[] {-1, 12, 13, Edges.HIGH, Edges.LOW}) {
            e.answers("count(" + what + ")", x, () -> x.count(what), -100);
        }
    }

    private void row() {
        FieldKeepsCamps x = Due.with("33", "001110;011110;021110;101110;111110;121110;201110;211110");
        e.of(48, "Number i of the ROW.");
        x.meets(0, 8, 255);
        e.is("numbers", x.count(10), 9);
        e.is("row(0)", x.row(0), 0);
        e.is("row(8)", x.row(8), 8);
        Due.field(x, "66");
        Due.camps(x, "551110");
        x.heap(0);
        e.is("a number above the greatest int", x.row(1), 1L << 35);
        x.slept();
        e.is("a number below 0, or not", x.row(2), 35);
        e.of(48, "NoSuchElementException: none such.");
        for (int i : new int[] {-1, 3, 128, Edges.HIGH, Edges.LOW}) {
            e.noSuch("row(" + i + ") of 3", x, () -> x.row(i));
        }
        x.fence(0);
        e.noSuch("row(0) of none", x, () -> x.row(0));
        FieldKeepsCamps y = new FieldKeepsCamps();
        e.noSuch("row(0) of a new one", y, () -> y.row(0));
    }

    private void manyCalls() {
        e.of(Edges.BEGINNING, "An object is used for at most 512 calls after it has been made;");
        FieldKeepsCamps x = new FieldKeepsCamps();
        for (int i = 1; i <= 508; i++) {
            x.years(60);
        }
        e.is("YEAR behind 508 calls", x.count(4), 508 * 60);
        e.is("what can be undone", x.count(9), 15);
        e.is("undo()", x.undo(), 14);
        e.is("the 512th call", x.row(1), 0);
    }
}
