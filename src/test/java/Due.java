import java.util.Arrays;
import java.util.NoSuchElementException;

/** Compares answers with those that are due, tells the wrong ones, and ends with exit code 1 if there was one. */
final class Due {
    private final String name;
    private int checks;
    private int wrong;

    Due(String name) {
        this.name = name;
    }

    void is(String call, long got, long want) {
        checks++;
        if (got != want) {
            wrong++;
            System.out.println(name + ": " + call + " answered " + got + ", due is " + want);
        }
    }

    void is(String call, boolean got, boolean want) {
        is(call, got ? 1 : 0, want ? 1 : 0);
    }

    /** The answer, and the whole ROW behind it. */
    void told(String call, FieldKeepsCamps x, long got, long want, long... row) {
        is(call, got, want);
        row(call, x, row);
    }

    void row(String call, FieldKeepsCamps x, long... row) {
        checks++;
        long[] have = rowOf(x);
        if (!Arrays.equals(have, row)) {
            wrong++;
            System.out.println(name + ": the ROW of " + call + " is " + Arrays.toString(have)
                    + ", due is " + Arrays.toString(row));
        }
    }

    static long[] rowOf(FieldKeepsCamps x) {
        long[] have = new long[x.count(10)];
        for (int i = 0; i < have.length; i++) {
            have[i] = x.row(i);
        }
        return have;
    }

    interface Call {
        long answer();
    }

    void noSuch(String call, Call asked) {
        checks++;
        try {
            long got = asked.answer();
            wrong++;
            System.out.println(name + ": " + call + " answered " + got + ", due is NoSuchElementException");
        } catch (NoSuchElementException e) {
            // as is due
        }
    }

    int checks() {
        return checks;
    }

    void finish() {
        System.out.println(name + ": " + checks + " checks, " + wrong + " wrong");
        if (wrong > 0) {
            System.exit(1);
        }
    }

    /** Makes a text THE TEXT, whatever stood there. */
    static void tell(FieldKeepsCamps x, String text) {
        x.end(0);
        for (int i = 0; i < text.length(); i += 4) {
            int v = 0;
            for (int k = i; k < i + 4; k++) {
                v = v << 8 | (k < text.length() ? text.charAt(k) & 255 : 0);
            }
            if (x.sign(v) == FieldKeepsCamps.NONE) {
                throw new IllegalStateException("a test's text is too long");
            }
        }
        if (!x.end(text.length())) {
            throw new IllegalStateException("a test's text could not be cut");
        }
    }

    static int field(FieldKeepsCamps x, String text) {
        tell(x, text);
        return x.field();
    }

    static int camps(FieldKeepsCamps x, String text) {
        tell(x, text);
        return x.camps();
    }

    static int rule(FieldKeepsCamps x, String text) {
        tell(x, text);
        return x.rule();
    }

    static int story(FieldKeepsCamps x, String text) {
        tell(x, text);
        return x.story();
    }

    static int law(FieldKeepsCamps x, String text) {
        tell(x, text);
        return x.law();
    }

    /** A new object with a field and camps. */
    static FieldKeepsCamps with(String field, String camps) {
        FieldKeepsCamps x = new FieldKeepsCamps();
        if (field(x, field) < 0 || camps(x, camps) < 0) {
            throw new IllegalStateException("a test's field or camps can't be told");
        }
        return x;
    }
}
