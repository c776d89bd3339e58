/** The edges of promises 1, 45 and 46: what a new object tells, what is counted, what status() tells of. */
public final class CountEdgeTest {
    private static final int MIN = Edge.MIN;
    private static final int MAX = Edge.MAX;
    private static final Due due = new Due();
    private static final Edge standing = new Edge(due, Edge::standing);
    private static final Edge emptyOne = new Edge(due, SkyMargins::new);

    public static void main(String[] args) {
        newObject();
        newObjectsAreTheirOwn();
        countNumbers();
        countEachByItself();
        countAtMost();
        countLookedAt();
        countWritten();
        countTape();
        countRefusals();
        countRefusalsOfEachCall();
        countRefusalsIsNotKept();
        countOfAllItsCalls();
        statusAheadOfAny();
        statusOfEachCall();
        statusOfOthers();
        due.close();
    }

    /** No COPIES, HANDS, TEXTS. */
    private static void newObject() {
        SkyMargins x = new SkyMargins();
        for (int what = 0; what < 13; what++) {
            due.is("new count " + what, 0, x.count(what));
        }
        due.is("new count 13", -1, x.count(13));
        due.is("status", 0, x.status());
        due.is("trimmed", 0, x.trimmed());
        due.is("fault", -1, x.fault());
        due.is("NONE", -1, SkyMargins.NONE);
        due.is("of", -2, x.of(0, 0));
        due.is("weight", 10, x.weight(0, 0));
        due.is("weight", 10, x.weight(59, 99));
        int[] none = {x.may(0, 1), x.cost(0, 1), x.cost(-1, 0), x.whose(0), x.sure(0), x.come(0, 0), x.agree(0, 1), x.family(0),
            x.times(0, 0, 0), x.written(0), x.towns(0), x.dates(0, 0), x.read(0, 1), x.stops(0, 0), x.many(0, 1),
            x.censor(0, 0, 0), x.late(0, -1), x.next(0), x.next(1), x.world(0, 0)};
        for (int i = 0; i < none.length; i++) {
            due.is("none " + i, -1, none[i]);
        }
        due.is("net", -1000000, x.net(0, 0));
        due.is("joins", -1000000, x.joins(0));
        due.is("tree", 0, x.tree());
        due.is("families", 0, x.families());
        due.is("chao", 0, x.chao());
        due.is("back", -2, x.back(0));
        due.is("end", 0, x.end(0));
    }

    private static void newObjectsAreTheirOwn() {
        SkyMargins one = Edge.standing();
        SkyMargins other = new SkyMargins();
        other.image(0);
        other.copy(0, 0);
        due.is("copies", 1, other.count(0));
        due.is("texts", 0, other.count(4));
        due.is("copies of the other", 4, one.count(0));
        due.is("in use by the other", 0, one.count(13));
        one.back(0);
        due.is("going back in one alone", 1, other.count(0));
        due.is("a world in one alone", -1, other.world(0, 0));
    }

    /** count: NONE for others. */
    private static void countNumbers() {
        standing.told("count", -1, (x, n) -> x.count(n), MIN, -2, -1, 14, 15, MAX);
        int[] want = {4, 3, 2, 9, 2, 1, 6, 4};
        for (int what = 0; what < want.length; what++) {
            int w = what;
            standing.told("count " + w, want[w], x -> x.count(w));
        }
        standing.told("count 13", 0, x -> x.count(13));
    }

    /** Each by itself: a call that adds one of one thing adds none of the others. */
    private static void countEachByItself() {
        Edge.Call[] adding = {x -> x.copy(0, 0), x -> x.stay(0, 0, 0, 0), x -> x.hand(0, 0), x -> x.note(0, 0, 0, -1, 1),
            x -> Due.text(x, "late"), x -> x.look(0, 1), x -> x.use(1), x -> Due.feed(x, 7)};
        int[] counted = {0, 1, 2, 3, 4, 5, 13, 7};
        for (int i = 0; i < adding.length; i++) {
            SkyMargins x = new SkyMargins();
            x.copy(0, 0);
            Due.text(x, "late");
            Due.text(x, "late");
            x.use(0);
            int[] was = new int[14];
            for (int what = 0; what < 14; what++) {
                was[what] = x.count(what);
            }
            adding[i].on(x);
            for (int what = 0; what < 14; what++) {
                due.is("count " + what + " by " + i, was[what] + (what == counted[i] ? 1 : 0), x.count(what));
            }
        }
    }

    private static void countAtMost() {
        due.is("copies", 12, Edge.withCopies(12).count(0));
        due.is("stays", 40, Edge.withStays(40).count(1));
        due.is("hands", 12, Edge.withHands(12).count(2));
        due.is("notes", 200, Edge.withNotes(200).count(3));
        due.is("written ones", 197, Edge.withNotes(200).count(6));
        due.is("texts", 8, Edge.withTexts(8).count(4));
    }

    /** COPIES LOOKED at. */
    private static void countLookedAt() {
        SkyMargins x = Due.withCopies(12);
        for (int copy = 11; copy >= 0; copy--) {
            x.look(copy, 1);
            due.is("looked at from " + copy, 12 - copy, x.count(5));
            x.look(copy, 1);
            due.is("once each", 12 - copy, x.count(5));
        }
        x.look(4, 0);
        due.is("one less", 11, x.count(5));
        x.look(4, 2);
        due.is("refused", 11, x.count(5));
    }

    /** WRITTEN NOTES. */
    private static void countWritten() {
        SkyMargins x = Due.withCopies(1);
        for (int kind = 3; kind >= 0; kind--) {
            x.note(0, 5, 0, -1, kind);
            due.is("notes with kind " + kind, 4 - kind, x.count(3));
            due.is("written with kind " + kind, kind == 0 ? 1 : 0, x.count(6));
        }
        Due.feed(x, 5, 1, 255, 5, 0, 255, 5, 2, 255);
        x.row(0);
        due.is("notes by a row", 6, x.count(3));
        due.is("written by a row", 3, x.count(6));
    }

    /** Bytes of the TAPE. */
    private static void countTape() {
        SkyMargins x = Due.withCopies(1);
        for (int size = 20; size <= 400; size += 20) {
            x.feed(0, 0, 0, 0, 0);
            due.is("bytes", size, x.count(7));
        }
        for (int size = 400; size >= 0; size -= 100) {
            x.end(size);
            due.is("bytes", size, x.count(7));
        }
        x.feed(0, 0, 0, 0, 0);
        x.text();
        due.is("bytes behind text", 0, x.count(7));
        x.feed(0, 0, 0, 0, 0);
        x.row(0);
        due.is("bytes behind row", 0, x.count(7));
    }

    private static void refusals(String what, SkyMargins x, int... want) {
        for (int i = 0; i < want.length; i++) {
            due.is(what + ", count " + (8 + i), want[i], x.count(8 + i));
        }
    }

    /** How many calls were REFUSED by -1, -2, -3, -5, -6. */
    private static void countRefusals() {
        SkyMargins x = Due.withCopies(12);
        Due.write(x, 0, 0, 0);
        refusals("none", x, 0, 0, 0, 0, 0);
        for (int i = 1; i <= 7; i++) {
            x.copy(8, 0);
            refusals("by -1", x, i, 0, 0, 0, 0);
        }
        for (int i = 1; i <= 3; i++) {
            x.look(12, 0);
            refusals("by -2", x, 7, i, 0, 0, 0);
        }
        for (int i = 1; i <= 5; i++) {
            Due.write(x, 0, 0, 0);
            refusals("by -3", x, 7, 3, i, 0, 0);
        }
        for (int i = 1; i <= 4; i++) {
            x.copy(0, 0);
            refusals("by -5", x, 7, 3, 5, i, 0);
        }
        for (int i = 1; i <= 6; i++) {
            x.row(0);
            refusals("by -6", x, 7, 3, 5, 4, i);
        }
        // One call is refused once, by the first of these.
        x.note(12, 60, 0, 12, 0);
        refusals("by the first alone", x, 8, 3, 5, 4, 6);
    }

    /** Each call that is refused is counted, whichever it is. */
    private static void countRefusalsOfEachCall() {
        SkyMargins x = Due.withCopies(1);
        Edge.Call[] by1 = {y -> y.copy(8, 0), y -> y.look(0, 2), y -> y.stay(0, 32, 0, 0), y -> y.hand(1, 0),
            y -> y.form(0, 6, 0), y -> y.sample(8, 0, 0), y -> y.note(0, 60, 0, -1, 0), y -> y.terms(4, 0), y -> y.run(-1),
            y -> y.image(2), y -> y.back(2)};
        Edge.Call[] by2 = {y -> y.look(1, 0), y -> y.stay(1, 0, 0, 0), y -> y.form(0, 0, 0), y -> y.note(1, 0, 0, -1, 0),
            y -> y.note(0, 0, 0, 0, 0), y -> y.row(1), y -> y.back(0)};
        for (int i = 0; i < by1.length; i++) {
            due.is("refused by -1, " + i, -1, by1[i].on(x));
            refusals("-1, " + i, x, i + 1, 0, 0, 0, 0);
        }
        for (int i = 0; i < by2.length; i++) {
            due.is("refused by -2, " + i, -2, by2[i].on(x));
            refusals("-2, " + i, x, by1.length, i + 1, 0, 0, 0);
        }
        due.is("use", -3, x.use(0));
        refusals("-3, use", x, by1.length, by2.length, 1, 0, 0);
        Due.write(x, 0, 0, 0);
        due.is("note", -3, Due.write(x, 0, 0, 0));
        refusals("-3, note", x, by1.length, by2.length, 2, 0, 0);
        due.is("row", -6, x.row(0));
        due.is("text", -6, x.text());
        refusals("-6", x, by1.length, by2.length, 2, 0, 2);
        Edge.Maker[] full = {() -> Edge.withCopies(12), () -> Edge.withStays(40), () -> Edge.withHands(12), () -> Edge.withNotes(200),
            () -> Edge.withTexts(8)};
        Edge.Call[] by5 = {y -> y.copy(0, 0), y -> y.stay(0, 0, 0, 0), y -> y.hand(0, 0), y -> y.note(0, 59, 59, -1, 0), y -> y.text()};
        for (int i = 0; i < full.length; i++) {
            new Edge(due, full[i]).refused("full " + i, -5, by5[i], i == 4 ? y -> y.end(0) : y -> 0);
        }
    }

    /** IMAGES do not keep that. */
    private static void countRefusalsIsNotKept() {
        SkyMargins x = Due.withCopies(12);
        Due.write(x, 0, 0, 0);
        x.image(0);
        x.copy(8, 0);
        x.look(12, 0);
        Due.write(x, 0, 0, 0);
        x.copy(0, 0);
        x.row(0);
        x.back(0);
        refusals("behind going back to fewer", x, 1, 1, 1, 1, 1);
        x.image(1);
        x.copy(8, 0);
        x.back(1);
        refusals("behind going back to as many", x, 2, 1, 1, 1, 1);
    }

    /** An object is used for at most 512 calls: the last ones tell as the first ones. */
    private static void countOfAllItsCalls() {
        SkyMargins x = new SkyMargins();
        for (int call = 1; call <= 511; call++) {
            x.back(call % 2);
        }
        due.is("the last of 512 calls", 511, x.count(9));
    }

    /** 0 ahead of any. */
    private static void statusAheadOfAny() {
        SkyMargins x = new SkyMargins();
        due.is("status of none", 0, x.status());
        x.feed(1, 2, 3, 4, 5);
        x.end(99);
        x.tree();
        x.whose(7);
        due.is("status of others alone", 0, x.status());
    }

    /** copy, look, stay, hand, form, sample, note, terms, row, text, use, run, image, back. */
    private static void statusOfEachCall() {
        Edge.Call[] good = {x -> x.copy(0, 0), x -> x.look(0, 1), x -> x.stay(0, 0, 0, 0), x -> x.hand(0, 0), x -> x.form(0, 0, 1),
            x -> x.sample(0, 0, 1), x -> x.note(0, 9, 9, -1, 0), x -> x.terms(0, 5), x -> x.row(0), x -> Due.text(x, "late"),
            x -> x.use(0), x -> x.run(0), x -> x.image(0), x -> x.back(0)};
        Edge.Call[] bad = {x -> x.copy(8, 0), x -> x.look(9, 1), x -> x.stay(9, 0, 0, 0), x -> x.hand(1, 0), x -> x.form(9, 0, 1),
            x -> x.sample(8, 0, 1), x -> x.note(0, 3, 7, -1, 0), x -> x.terms(0, 0), x -> x.row(9), x -> x.text(), x -> x.use(9),
            x -> x.run(-1), x -> x.image(2), x -> x.back(1)};
        int[] by = {-1, -2, -2, -1, -2, -1, -3, -1, -2, -6, -3, -1, -1, -2};
        for (int i = 0; i < good.length; i++) {
            for (int j = 0; j < bad.length; j++) {
                SkyMargins x = Edge.standing();
                if (i == 9) {
                    x.end(0);
                }
                bad[j].on(x);
                due.is("refused " + j, by[j], x.status());
                if (j == 9 && i == 8) {
                    Due.feed(x, 1, 2, 255);
                }
                good[i].on(x);
                due.is(i + " behind " + j, 0, x.status());
                due.is("status again", 0, x.status());
                x.end(0);
                bad[i].on(x);
                due.is(i + " refused then", by[i], x.status());
                due.is("status again", by[i], x.status());
            }
        }
    }

    /** No other call changes it, whatever it tells. */
    private static void statusOfOthers() {
        Edge.Call[] others = {x -> x.of(0, 0), x -> x.of(-1, 0), x -> x.feed(1, 2, 3, 4, 5), x -> x.end(2), x -> x.end(-1),
            x -> x.trimmed(), x -> x.fault(), x -> x.weight(0, 0), x -> x.weight(-1, 0), x -> x.may(0, 1), x -> x.may(0, 0),
            x -> x.cost(-1, 0), x -> x.cost(0, 9), x -> x.tree(), x -> x.whose(0), x -> x.whose(9), x -> x.sure(0), x -> x.sure(9),
            x -> x.come(0, 0), x -> x.come(0, 3), x -> x.net(3, 0), x -> x.net(9, 0), x -> x.agree(0, 1), x -> x.agree(0, 0),
            x -> x.families(), x -> x.family(0), x -> x.family(9), x -> x.joins(0), x -> x.joins(9), x -> x.times(0, 0, 1),
            x -> x.times(8, 0, 1), x -> x.written(0), x -> x.written(8), x -> x.towns(0), x -> x.towns(9), x -> x.dates(0, 0),
            x -> x.dates(0, 4), x -> x.read(0, 1), x -> x.read(0, 0), x -> x.stops(0, 0), x -> x.stops(0, 2), x -> x.many(0, 1),
            x -> x.many(0, 0), x -> x.chao(), x -> x.censor(1, 0, 0), x -> x.censor(8, 0, 0), x -> x.late(0, -1), x -> x.late(9, 0),
            x -> x.next(0), x -> x.next(2), x -> x.world(0, 0), x -> x.world(9, 0), x -> x.count(0), x -> x.count(14),
            x -> x.status()};
        int[] by = {0, -1, -2, -3, -5, -6};
        Edge.Call[] ahead = {x -> x.image(1), x -> x.copy(8, 0), x -> x.look(9, 0), x -> x.use(9), x -> fullCopies(x), x -> x.row(0)};
        for (int i = 0; i < ahead.length; i++) {
            SkyMargins x = Edge.standing();
            x.end(0);
            ahead[i].on(x);
            int[] was = new int[5];
            for (int k = 0; k < 5; k++) {
                was[k] = x.count(8 + k);
            }
            for (int j = 0; j < others.length; j++) {
                others[j].on(x);
                due.is("status " + by[i] + " behind " + j, by[i], x.status());
            }
            refusals("behind them all", x, was);
        }
    }

    private static int fullCopies(SkyMargins x) {
        for (int copy = 0; copy < 12; copy++) {
            x.copy(0, 0);
        }
        return x.status();
    }
}
