/** Promises 30 to 33: whose hand, where it was, and dates. */
public final class HandTest {
    private static final Due due = new Due();

    public static void main(String[] args) {
        timesAsLikely();
        timesAtTheEdges();
        written();
        towns();
        datesByThemselves();
        datesByTheTree();
        due.close();
    }

    private static SkyMargins withHands(int many) {
        SkyMargins x = new SkyMargins();
        for (int hand = 0; hand < many; hand++) {
            x.hand(0, 400);
        }
        return x;
    }

    private static void timesAsLikely() {
        SkyMargins x = withHands(3);
        x.form(0, 0, 5);
        x.form(1, 1, 5);
        due.is("no signs", 1, x.times(0, 0, 1));
        x.sample(0, 0, 1);
        due.is("once", 6, x.times(0, 0, 1));
        due.is("the other way", 0, x.times(0, 1, 0));
        // (6 / 11) through (1 / 6) is 36 / 11.
        due.is("against none known", 3, x.times(0, 0, 2));
        x.sample(0, 0, 3);
        due.is("three times", 216, x.times(0, 0, 1));
        x.sample(0, 1, 2);
        due.is("less two", 6, x.times(0, 0, 1));
        x.sample(0, 1, 3);
        due.is("alike", 1, x.times(0, 0, 1));
        due.is("itself", 1, x.times(0, 1, 1));
    }

    private static void timesAtTheEdges() {
        SkyMargins x = withHands(2);
        x.form(0, 2, 9);
        x.form(1, 3, 9);
        x.sample(7, 2, 6);
        due.is("a million exactly", 1000000, x.times(7, 0, 1));
        x.sample(7, 2, 5);
        due.is("a hundred thousand", 100000, x.times(7, 0, 1));
        x.sample(7, 2, 99);
        due.is("a million at most", 1000000, x.times(7, 0, 1));
        for (int form = 0; form < 6; form++) {
            x.sample(6, form, 99);
            x.form(0, form, 99);
            x.form(1, form, 98);
        }
        // All forms alike: both hands have each form a sixth of the times.
        due.is("all forms alike", 1, x.times(6, 0, 1));
        due.is("all forms alike, turned", 1, x.times(6, 1, 0));
        x.form(1, 0, 99);
        // (100 / 600) ^ 594 through (100 / 595) ^ 99 and (99 / 595) ^ 495: a bit more than 1.
        due.is("just more", 1, x.times(6, 0, 1));
        due.is("just less", 0, x.times(6, 1, 0));
        due.is("sample beyond", -1, x.times(8, 0, 1));
        due.is("sample below", -1, x.times(-1, 0, 1));
        due.is("no hand", -1, x.times(0, 2, 0));
        due.is("no other", -1, x.times(0, 0, 2));
        due.is("hand below", -1, x.times(0, -1, 0));
    }

    private static void written() {
        SkyMargins x = new SkyMargins();
        due.is("no hands", -1, x.written(0));
        x = withHands(4);
        x.form(1, 0, 3);
        x.form(2, 0, 3);
        x.form(3, 1, 50);
        due.is("all alike", 0, x.written(0));
        x.sample(0, 0, 1);
        due.is("the lowest of two", 1, x.written(0));
        x.sample(0, 1, 1);
        due.is("mixed", 1, x.written(0));
        x.sample(0, 1, 9);
        due.is("the last", 3, x.written(0));
        due.is("sample beyond", -1, x.written(8));
        due.is("sample below", -1, x.written(-1));
    }

    private static void towns() {
        SkyMargins x = Due.withCopies(3);
        x.hand(100, 200);
        x.hand(0, 400);
        due.is("no notes", 0, x.towns(0));
        x.note(0, 0, 0, 0, 0);
        x.note(1, 0, 0, 0, 3);
        due.is("no stays", 0, x.towns(0));
        x.stay(0, 31, 200, 300);
        due.is("the last year", 1, x.towns(0));
        x.stay(0, 0, 50, 100);
        due.is("the first year", 2, x.towns(0));
        x.stay(0, 5, 201, 210);
        x.stay(0, 6, 0, 99);
        due.is("behind and ahead", 2, x.towns(0));
        x.stay(1, 31, 150, 150);
        due.is("the same town", 2, x.towns(0));
        x.stay(1, 9, 0, 400);
        due.is("strokes in a hand", 3, x.towns(0));
        x.stay(2, 10, 0, 400);
        due.is("another copy", 3, x.towns(0));
        due.is("another hand", 0, x.towns(1));
        due.is("no hand", -1, x.towns(2));
        due.is("below", -1, x.towns(-1));
    }

    private static void dates(SkyMargins x, int copy, int... want) {
        for (int what = 0; what < want.length; what++) {
            due.is("dates " + copy + " " + what, want[what], x.dates(copy, what));
        }
    }

    private static void datesByThemselves() {
        SkyMargins x = Due.withCopies(2);
        dates(x, 0, 0, 400, 0, 400);
        x.hand(50, 90);
        x.hand(60, 95);
        x.hand(70, 80);
        x.note(0, 0, 0, 0, 0);
        x.note(0, 1, 0, 1, 2);
        x.note(0, 2, 0, -1, 0);
        x.note(1, 2, 0, 2, 0);
        dates(x, 0, 60, 90);
        x.stay(0, 0, 55, 92);
        x.stay(0, 0, 30, 40);
        dates(x, 0, 60, 90);
        x.stay(1, 0, 75, 76);
        x.stay(1, 1, 77, 78);
        dates(x, 1, 75, 78);
        due.is("what 4", -1, x.dates(0, 4));
        due.is("what -1", -1, x.dates(0, -1));
        due.is("no copy", -1, x.dates(2, 0));
        due.is("below", -1, x.dates(-1, 0));
    }

    private static void datesByTheTree() {
        SkyMargins x = Due.withCopies(4);
        int[][] lived = {{100, 300}, {50, 250}, {120, 280}, {10, 20}};
        for (int copy = 0; copy < 4; copy++) {
            x.hand(lived[copy][0], lived[copy][1]);
            x.note(copy, 1, copy < 3 ? 1 : 2, copy, 0);
            Due.write(x, copy, 2 + copy / 3, 1);
        }
        // 0 is nobody's, 1 and 2 come of 0, and 3 is nobody's.
        due.is("whose 1", 0, x.whose(1));
        due.is("whose 2", 0, x.whose(2));
        due.is("whose 3", 100, x.whose(3));
        dates(x, 0, 100, 300, 100, 250);
        dates(x, 1, 50, 250, 100, 250);
        dates(x, 2, 120, 280, 120, 280);
        dates(x, 3, 10, 20, 10, 20);
        // A chain 0, 1, 2: through all of them.
        SkyMargins y = Due.withCopies(3);
        int[][] years = {{200, 300}, {10, 290}, {20, 150}};
        for (int copy = 0; copy < 3; copy++) {
            y.hand(years[copy][0], years[copy][1]);
            y.note(copy, 1, 1, copy, 0);
        }
        y.stay(0, 1, 200, 210);
        y.stay(1, 1, 200, 205);
        y.stay(1, 2, 1, 2);
        y.stay(2, 2, 1, 2);
        due.is("chain", 1, y.whose(2));
        dates(y, 2, 20, 2, 200, 2);
        dates(y, 1, 10, 205, 200, 2);
        dates(y, 0, 200, 210, 200, 2);
    }
}
