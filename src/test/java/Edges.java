import java.util.ArrayList;
import java.util.Arrays;
import java.util.List;
import java.util.Map;
import java.util.TreeMap;
import java.util.regex.Matcher;
import java.util.regex.Pattern;

/** Boundary cases: each check stands under a sentence of the document, and a wrong answer is told with both. */
final class Edges {
    /** What the document says ahead of its terms, and its terms; promises have their own numbers. */
    static final int BEGINNING = -1;
    static final int TERMS = 0;
    static final int PROMISES = 48;
    static final int LOW = Integer.MIN_VALUE;
    static final int HIGH = Integer.MAX_VALUE;

    private final Due due = new Due("edges");
    private final Map<Integer, List<String>> named = new TreeMap<>();
    private String where = "";
    private int checksBefore;

    /** What follows is about a sentence of a promise, in the document's own words. */
    void of(int promise, String sentence) {
        sentenceEnds();
        named.computeIfAbsent(promise, key -> new ArrayList<>()).add(sentence);
        where = nameOf(promise) + " '" + sentence + "': ";
        checksBefore = due.checks();
    }

    private static String nameOf(int promise) {
        return promise == BEGINNING ? "beginning" : promise == TERMS ? "terms" : "promise " + promise;
    }

    private void sentenceEnds() {
        if (!where.isEmpty()) {
            due.is(where + "was checked", due.checks() > checksBefore, true);
        }
    }

    void is(String call, long got, long want) {
        due.is(where + call, got, want);
    }

    void is(String call, boolean got, boolean want) {
        due.is(where + call, got, want);
    }

    void told(String call, FieldKeepsCamps x, long got, long want, long... row) {
        due.told(where + call, x, got, want, row);
    }

    void noSuch(String call, FieldKeepsCamps x, Due.Call asked) {
        long[] before = all(x);
        due.noSuch(where + call, asked);
        same(call, x, before);
    }

    /** A call that answers NONE, and changes nothing. */
    void none(String call, FieldKeepsCamps x, Due.Call asked) {
        answers(call, x, asked, -1);
    }

    /** A call that answers so, and changes nothing: not even the ROW. */
    void answers(String call, FieldKeepsCamps x, Due.Call asked, long want) {
        long[] before = all(x);
        is(call, asked.answer(), want);
        same(call, x, before);
    }

    private void same(String call, FieldKeepsCamps x, long[] before) {
        due.is(where + call + " changes nothing", Arrays.equals(before, all(x)), true);
    }

    /** Camps of STRENGTH s, one behind another. */
    void strengths(FieldKeepsCamps x, int... want) {
        for (int camp = 0; camp < want.length; camp++) {
            is("STRENGTH of " + camp, x.camp(camp, 3), want[camp]);
        }
    }

    /** All that can be asked one by one, but for THE TEXT. */
    static long[] all(FieldKeepsCamps x) {
        long[] of = new long[11 + 8 * 8 + 128];
        for (int what = 0; what < 11; what++) {
            of[what] = x.count(what);
        }
        for (int i = 0; i < 8 * x.count(2); i++) {
            of[11 + i] = x.camp(i / 8, i % 8);
        }
        for (int i = 0; i < x.count(10); i++) {
            of[11 + 64 + i] = x.row(i);
        }
        return of;
    }

    /** What undo() brings back: all of the camps, how many there are, YEAR, LOST. */
    static long[] camps(FieldKeepsCamps x) {
        long[] of = new long[3 + 6 * x.count(2)];
        of[0] = x.count(2);
        of[1] = x.count(4);
        of[2] = x.count(5);
        for (int i = 3; i < of.length; i++) {
            of[i] = x.camp((i - 3) / 6, (i - 3) % 6);
        }
        return of;
    }

    /** Each sentence that was named stands in the document, and each boundary that it tells is in one of them. */
    void finish(String doc) {
        sentenceEnds();
        where = "";
        for (int promise = BEGINNING; promise <= PROMISES; promise++) {
            String text = part(doc, promise);
            String left = text;
            for (String sentence : named.getOrDefault(promise, List.of())) {
                due.is(nameOf(promise) + " says '" + sentence + "'", text.contains(sentence), true);
                left = left.replace(sentence, "\n");
            }
            if (promise == BEGINNING) {
                // what it is, in words that the promises say again
                continue;
            }
            Matcher boundary = Pattern.compile("\\d|\\b(Refused|NONE|NoSuch\\w*|none|nothing|without|most|least|"
                    + "fewest|first|above|below|more|less|last|latest|empty|early|equal|others?)\\b").matcher(left);
            while (boundary.find()) {
                int from = Math.max(0, boundary.start() - 30);
                int to = Math.min(left.length(), boundary.end() + 30);
                due.is(nameOf(promise) + " has a boundary without a test: "
                        + left.substring(from, to).replace('\n', '|'), true, false);
            }
        }
        due.finish();
    }

    private static String part(String doc, int promise) {
        if (promise == BEGINNING) {
            return doc.substring(0, doc.indexOf("## The public face"));
        }
        String begins = promise == TERMS ? "## Terms\n" : "## Promise " + promise + ": ";
        String ends = promise == PROMISES ? "## Not promised" : "## Promise " + (promise + 1) + ": ";
        int from = doc.indexOf(begins) + begins.length();
        String text = doc.substring(from, doc.indexOf(ends, from));
        if (promise == TERMS) {
            // the terms' own numbers and the names of calls are no boundaries
            return text.replaceAll("(?m)^\\d\\. ", "").replaceAll("`\\w+`", "");
        }
        // behind the heading and the face of the call
        return text.substring(text.indexOf("`: ") + 3);
    }
}
