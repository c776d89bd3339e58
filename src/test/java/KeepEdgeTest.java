/** The edges of promises 2 to 10: what is kept, and what is refused (Terms I). */
public final class KeepEdgeTest {
    private static final int MIN = Edge.MIN;
    private static final int MAX = Edge.MAX;
    private static final Due due = new Due();
    private static final Edge standing = new Edge(due, Edge::standing);
    private static final Edge emptyOne = new Edge(due, SkyMargins::new);

    public static void main(String[] args) {
        copyNumbersThatCannotBe();
        copyTwelveAtMost();
        copyIsNotLookedAtFirst();
        lookNumbers();
        lookWhatItWas();
        stayNumbersThatCannotBe();
        stayYears();
        stayFortyAtMost();
        handYears();
        handTwelveAtMost();
        formNumbers();
        formWhatItWas();
        sampleNumbers();
        sampleWhatItWas();
        noteNumbersThatCannotBe();
        noteWordingOfOtherKinds();
        noteNoSuchCopyOrHand();
        noteTheCopyHasIt();
        noteTwoHundredAtMost();
        noteFirstOfTheRefusals();
        ofNumbers();
        ofShared();
        ofSharedByManyWordings();
        termsNumbers();
        termsWhatItWas();
        due.close();
    }

    /** LAND 0 .. 7, LISTS (bits of six). */
    private static void copyNumbersThatCannotBe() {
        standing.refused("copy of land", -1, (x, n) -> x.copy(n, 0), MIN, -1, 8, MAX);
        standing.refused("copy in lists", -1, (x, n) -> x.copy(0, n), MIN, -1, 64, MAX);
        standing.refused("copy with neither", -1, x -> x.copy(8, 64));
        standing.taken("copy of the first land, in no list", 4, x -> x.copy(0, 0));
        standing.taken("copy of the last land, in all lists", 4, x -> x.copy(7, 63));
        int[] lands = {0, 7};
        int[] lists = {0, 63};
        for (int land : lands) {
            for (int list : lists) {
                SkyMargins x = new SkyMargins();
                Due.text(x, "late if land=" + land + " and lists=" + list);
                due.is("first copy", 0, x.copy(land, list));
                Due.write(x, 0, 0, 0);
                due.is("land " + land + " and lists " + list + " are kept", 1, x.late(0, 0));
            }
        }
    }

    /** COPIES 0 .. 11 (12 at most); -5. */
    private static void copyTwelveAtMost() {
        Edge eleven = new Edge(due, () -> Edge.withCopies(11));
        Edge twelve = new Edge(due, () -> Edge.withCopies(12));
        eleven.taken("the twelfth copy", 11, x -> x.copy(7, 63));
        twelve.refused("the thirteenth copy", -5, x -> x.copy(7, 63));
        twelve.refused("-1 ahead of -5, by land", -1, x -> x.copy(8, 63));
        twelve.refused("-1 ahead of -5, by lists", -1, x -> x.copy(7, 64));
    }

    /** LOOKED at 1 or 0 (0 at first). */
    private static void copyIsNotLookedAtFirst() {
        standing.taken("a new copy's look", 0, x -> x.look(x.copy(0, 0), 1));
        // A copy that was looked at, and is gone by going back, leaves nothing to a new one of its number.
        SkyMargins x = Due.withCopies(1);
        x.image(0);
        x.copy(5, 9);
        x.look(1, 1);
        x.back(0);
        x.copy(0, 0);
        due.is("looks behind going back", 0, x.count(5));
        due.is("a new copy's look behind going back", 0, x.look(1, 1));
    }

    /** look: -1; -2. */
    private static void lookNumbers() {
        standing.refused("look of", -1, (x, n) -> x.look(1, n), MIN, -1, 2, MAX);
        standing.refused("look at", -2, (x, n) -> x.look(n, 1), MIN, -1, 4, 11, 12, MAX);
        standing.refused("look, -1 ahead of -2", -1, x -> x.look(4, 2));
        emptyOne.refused("look without copies", -2, x -> x.look(0, 0));
        new Edge(due, () -> Edge.withCopies(12)).taken("look at the last", 0, x -> x.look(11, 1));
        new Edge(due, () -> Edge.withCopies(12)).refused("look behind the last", -2, x -> x.look(12, 1));
    }

    /** look: what it was. */
    private static void lookWhatItWas() {
        standing.taken("look, was 1", 1, x -> x.look(0, 0));
        standing.taken("look, was 1 and is", 1, x -> x.look(0, 1));
        standing.taken("look, was 0", 0, x -> x.look(3, 1));
        standing.taken("look, was 0 and is", 0, x -> x.look(3, 0));
        SkyMargins x = Due.withCopies(3);
        int[] looks = {1, 1, 0, 0, 1};
        int was = 0;
        for (int look : looks) {
            due.is("look by turns", was, x.look(1, look));
            due.is("copies looked at", look, x.count(5));
            was = look;
        }
        due.is("the copy ahead", 0, x.look(0, 0));
        due.is("the copy behind", 0, x.look(2, 0));
    }

    /** stay: TOWN 0 .. 31, YEAR 0 .. 400; -2. */
    private static void stayNumbersThatCannotBe() {
        standing.refused("stay in town", -1, (x, n) -> x.stay(0, n, 0, 400), MIN, -1, 32, MAX);
        standing.refused("stay from", -1, (x, n) -> x.stay(0, 0, n, 400), MIN, -1, 401, MAX);
        standing.refused("stay from a bad year to the same", -1, (x, n) -> x.stay(0, 0, n, n), MIN, -1, 401, MAX);
        standing.refused("stay to", -1, (x, n) -> x.stay(0, 0, 0, n), MIN, -1, 401, MAX);
        standing.refused("stay of", -2, (x, n) -> x.stay(n, 0, 0, 400), MIN, -1, 4, 11, 12, MAX);
        standing.refused("stay, -1 ahead of -2, by town", -1, x -> x.stay(4, 32, 0, 400));
        standing.refused("stay, -1 ahead of -2, by years", -1, x -> x.stay(4, 0, 1, 0));
        standing.taken("stay in the first town", 4, x -> x.stay(0, 0, 0, 400));
        standing.taken("stay in the last town", 4, x -> x.stay(3, 31, 0, 400));
        emptyOne.refused("stay without copies", -2, x -> x.stay(0, 0, 0, 0));
    }

    /** stay: -1 (to a YEAR ahead of that from, too). */
    private static void stayYears() {
        int[][] back = {{1, 0}, {400, 0}, {400, 399}, {200, 199}};
        for (int[] years : back) {
            standing.refused("stay from " + years[0] + " to " + years[1], -1, x -> x.stay(0, 0, years[0], years[1]));
        }
        int[][] on = {{0, 0}, {400, 400}, {200, 200}, {0, 400}, {399, 400}};
        for (int[] years : on) {
            standing.taken("stay from " + years[0] + " to " + years[1], 4, x -> x.stay(3, 0, years[0], years[1]));
            SkyMargins x = Due.withCopies(1);
            x.stay(0, 0, years[0], years[1]);
            due.is("from " + years[0], years[0], x.dates(0, 0));
            due.is("to " + years[1], years[1], x.dates(0, 1));
        }
    }

    /** STAYS, 40 at most; how many there are; -5. */
    private static void stayFortyAtMost() {
        Edge most = new Edge(due, () -> Edge.withStays(39));
        Edge full = new Edge(due, () -> Edge.withStays(40));
        most.taken("the fortieth stay", 40, x -> x.stay(3, 31, 400, 400));
        full.refused("the forty-first stay", -5, x -> x.stay(3, 31, 400, 400));
        full.refused("-1 ahead of -5", -1, x -> x.stay(3, 31, 400, 399));
        full.refused("-2 ahead of -5", -2, x -> x.stay(4, 31, 400, 400));
        full.refused("-1 ahead of -2 and -5", -1, x -> x.stay(4, -1, 400, 400));
        SkyMargins x = Due.withCopies(1);
        for (int stay = 1; stay <= 3; stay++) {
            due.is("a stay told twice is two", stay, x.stay(0, 1, 2, 3));
        }
    }

    /** hand: -1 (as for stay). */
    private static void handYears() {
        standing.refused("hand from", -1, (x, n) -> x.hand(n, 400), MIN, -1, 401, MAX);
        standing.refused("hand from a bad year to the same", -1, (x, n) -> x.hand(n, n), MIN, -1, 401, MAX);
        standing.refused("hand to", -1, (x, n) -> x.hand(0, n), MIN, -1, 401, MAX);
        int[][] back = {{1, 0}, {400, 0}, {400, 399}, {200, 199}};
        for (int[] years : back) {
            standing.refused("hand from " + years[0] + " to " + years[1], -1, x -> x.hand(years[0], years[1]));
        }
        int[][] on = {{0, 0}, {400, 400}, {200, 200}, {0, 400}, {399, 400}};
        for (int[] years : on) {
            standing.taken("hand from " + years[0] + " to " + years[1], 2, x -> x.hand(years[0], years[1]));
            SkyMargins x = Due.withCopies(1);
            x.hand(years[0], years[1]);
            x.note(0, 0, 0, 0, 0);
            due.is("from " + years[0], years[0], x.dates(0, 0));
            due.is("to " + years[1], years[1], x.dates(0, 1));
        }
    }

    /** HANDS 0 .. 11; -5. */
    private static void handTwelveAtMost() {
        Edge eleven = new Edge(due, () -> Edge.withHands(11));
        Edge twelve = new Edge(due, () -> Edge.withHands(12));
        eleven.taken("the twelfth hand", 11, x -> x.hand(400, 400));
        twelve.refused("the thirteenth hand", -5, x -> x.hand(400, 400));
        twelve.refused("-1 ahead of -5", -1, x -> x.hand(400, 399));
        emptyOne.taken("the first hand", 0, x -> x.hand(0, 0));
    }

    /** FORMS 0 .. 5, each 0 .. 99 times; -1; -2. */
    private static void formNumbers() {
        standing.refused("form", -1, (x, n) -> x.form(0, n, 1), MIN, -1, 6, MAX);
        standing.refused("form, so often", -1, (x, n) -> x.form(0, 0, n), MIN, -1, 100, MAX);
        standing.refused("form of hand", -2, (x, n) -> x.form(n, 0, 1), MIN, -1, 2, 11, 12, MAX);
        standing.refused("form, -1 ahead of -2, by form", -1, x -> x.form(2, 6, 1));
        standing.refused("form, -1 ahead of -2, by many", -1, x -> x.form(2, 0, 100));
        emptyOne.refused("form without hands", -2, x -> x.form(0, 0, 0));
        Edge twelve = new Edge(due, () -> Edge.withHands(12));
        twelve.taken("form of the last hand", 0, x -> x.form(11, 5, 99));
        twelve.refused("form behind the last hand", -2, x -> x.form(12, 5, 99));
    }

    /** form: what it was (0 at first). */
    private static void formWhatItWas() {
        SkyMargins x = new SkyMargins();
        x.hand(0, 400);
        x.hand(0, 400);
        for (int hand = 0; hand < 2; hand++) {
            for (int form = 0; form < 6; form++) {
                due.is("at first", 0, x.form(hand, form, 99));
                due.is("was the most", 99, x.form(hand, form, 0));
                due.is("was the least", 0, x.form(hand, form, 10 * hand + form));
            }
        }
        for (int hand = 0; hand < 2; hand++) {
            for (int form = 0; form < 6; form++) {
                due.is("each by itself", 10 * hand + form, x.form(hand, form, 0));
            }
        }
        // A hand that is gone by going back leaves nothing to a new one of its number.
        x.image(0);
        x.hand(7, 8);
        for (int form = 0; form < 6; form++) {
            x.form(2, form, 50);
        }
        x.back(0);
        due.is("a new hand behind going back", 2, x.hand(0, 400));
        for (int form = 0; form < 6; form++) {
            due.is("a new hand's forms behind going back", 0, x.form(2, form, 1));
        }
    }

    /** SAMPLES 0 .. 7: six FORMS likewise; -1. */
    private static void sampleNumbers() {
        standing.refused("sample", -1, (x, n) -> x.sample(n, 0, 1), MIN, -1, 8, MAX);
        standing.refused("sample's form", -1, (x, n) -> x.sample(0, n, 1), MIN, -1, 6, MAX);
        standing.refused("sample's form, so often", -1, (x, n) -> x.sample(0, 0, n), MIN, -1, 100, MAX);
        emptyOne.taken("the last sample without hands", 0, x -> x.sample(7, 5, 99));
        emptyOne.taken("the first sample without hands", 0, x -> x.sample(0, 0, 0));
    }

    /** sample: what it was (0 at first). */
    private static void sampleWhatItWas() {
        SkyMargins x = new SkyMargins();
        for (int sample = 0; sample < 8; sample++) {
            for (int form = 0; form < 6; form++) {
                due.is("at first", 0, x.sample(sample, form, 99));
                due.is("was the most", 99, x.sample(sample, form, 10 * sample + form));
            }
        }
        for (int sample = 0; sample < 8; sample++) {
            for (int form = 0; form < 6; form++) {
                due.is("each by itself", 10 * sample + form, x.sample(sample, form, 0));
            }
        }
        due.is("was the least", 0, x.sample(3, 3, 0));
    }

    /** note: PLACE 0 .. 59, WORDING 0 .. 99, KIND 0 .. 3. */
    private static void noteNumbersThatCannotBe() {
        standing.refused("note at", -1, (x, n) -> x.note(0, n, 0, -1, 0), MIN, -1, 60, MAX);
        standing.refused("note cut at", -1, (x, n) -> x.note(0, n, 0, -1, 1), MIN, -1, 60, MAX);
        standing.refused("note with wording", -1, (x, n) -> x.note(0, 0, n, -1, 0), MIN, -1, 100, MAX);
        standing.refused("note of kind", -1, (x, n) -> x.note(0, 0, 0, -1, n), MIN, -1, 4, MAX);
        for (int kind = 0; kind < 4; kind++) {
            int k = kind;
            standing.taken("note at the first place of kind " + k, 9, x -> x.note(1, 0, 0, -1, k));
            standing.taken("note at the last place of kind " + k, 9, x -> x.note(1, 59, 0, -1, k));
        }
        standing.taken("note with the last wording", 9, x -> x.note(1, 59, 99, 1, 0));
    }

    /** note: -1 (WORDING not 0 for KINDS 1 .. 3, too). */
    private static void noteWordingOfOtherKinds() {
        for (int kind = 1; kind < 4; kind++) {
            int k = kind;
            standing.refused("note of kind " + k + " with wording", -1, (x, n) -> x.note(0, 8, n, -1, k),
                MIN, -1, 1, 99, 100, MAX);
            standing.refused("-1 ahead of -2, of kind " + k, -1, x -> x.note(4, 8, 1, -1, k));
            standing.refused("-1 ahead of -3, of kind " + k, -1, x -> x.note(3, 0, 1, -1, k));
        }
    }

    /** note: -2 (HAND, too). */
    private static void noteNoSuchCopyOrHand() {
        standing.refused("note in copy", -2, (x, n) -> x.note(n, 8, 8, -1, 0), MIN, -1, 4, 11, 12, MAX);
        standing.refused("note in hand", -2, (x, n) -> x.note(0, 8, 8, n, 0), MIN, -2, 2, 11, 12, 255, MAX);
        standing.refused("cut in hand", -2, (x, n) -> x.note(0, 8, 0, n, 1), MIN, -2, 2, 11, 12, 255, MAX);
        standing.taken("note in no known hand", 9, x -> x.note(0, 8, 8, SkyMargins.NONE, 0));
        standing.taken("note in the first hand", 9, x -> x.note(0, 8, 8, 0, 0));
        standing.taken("note in the last hand", 9, x -> x.note(0, 8, 8, 1, 0));
        standing.taken("note in the last copy", 9, x -> x.note(3, 8, 8, 1, 0));
        emptyOne.refused("note without copies", -2, x -> x.note(0, 0, 0, -1, 0));
        Edge copies = new Edge(due, () -> Edge.withCopies(12));
        copies.taken("note in the twelfth copy", 9, x -> x.note(11, 8, 8, 1, 0));
        copies.refused("note in the thirteenth copy", -2, x -> x.note(12, 8, 8, 1, 0));
        Edge hands = new Edge(due, () -> Edge.withHands(12));
        hands.taken("note in the twelfth hand", 9, x -> x.note(0, 8, 8, 11, 0));
        hands.refused("note in the thirteenth hand", -2, x -> x.note(0, 8, 8, 12, 0));
    }

    /** A COPY has no two WRITTEN ones of the same PLACE and WORDING, no two others of one KIND at a PLACE; -3. */
    private static void noteTheCopyHasIt() {
        standing.refused("written again", -3, x -> x.note(0, 3, 7, 0, 0));
        standing.refused("written again in another hand", -3, x -> x.note(0, 3, 7, 1, 0));
        standing.refused("written again in no known hand", -3, x -> x.note(0, 3, 7, -1, 0));
        standing.refused("cut again", -3, x -> x.note(0, 3, 0, 0, 1));
        standing.refused("thin again", -3, x -> x.note(3, 0, 0, 1, 2));
        standing.refused("thick again", -3, x -> x.note(3, 0, 0, -1, 3));
        standing.refused("came by a row", -3, x -> x.note(1, 9, 9, -1, 0));
        standing.taken("another wording there", 9, x -> x.note(0, 3, 8, 0, 0));
        standing.taken("the same wording elsewhere", 9, x -> x.note(0, 4, 7, 0, 0));
        standing.taken("the same in another copy", 9, x -> x.note(3, 3, 7, 0, 0));
        standing.taken("wording 0 where it is cut", 9, x -> x.note(0, 3, 0, 0, 0));
        standing.taken("cut elsewhere", 9, x -> x.note(0, 4, 0, 0, 1));
        standing.taken("cut where it is written", 9, x -> x.note(1, 3, 0, 0, 1));
        standing.taken("cut where there are strokes", 9, x -> x.note(3, 0, 0, 0, 1));
        standing.taken("thin where it is cut", 9, x -> x.note(0, 3, 0, 0, 2));
        standing.taken("thick where it is cut", 9, x -> x.note(0, 3, 0, 0, 3));
        standing.taken("written where there are strokes", 9, x -> x.note(3, 0, 0, 0, 0));
        SkyMargins x = Due.withCopies(1);
        for (int kind = 3; kind >= 0; kind--) {
            due.is("one of each kind", 3 - kind, x.note(0, 59, 0, -1, kind));
            due.is("and no other", -3, x.note(0, 59, 0, -1, kind));
        }
    }

    /** NOTES, 200 at most: its number; -5. */
    private static void noteTwoHundredAtMost() {
        Edge most = new Edge(due, () -> Edge.withNotes(199));
        Edge full = new Edge(due, () -> Edge.withNotes(200));
        for (int kind = 0; kind < 4; kind++) {
            int k = kind;
            most.taken("the last note of kind " + k, 199, x -> x.note(1, 58, 0, 1, k));
            full.refused("one more note of kind " + k, -5, x -> x.note(1, 58, 0, 1, k));
        }
        full.told("the last note's place is there", 1, x -> x.of(199, 1) >= 0 ? 1 : 0);
        full.refused("-1 ahead of -5", -1, x -> x.note(1, 60, 0, 1, 0));
        full.refused("-2 ahead of -5", -2, x -> x.note(4, 58, 0, 1, 0));
        full.refused("-2 ahead of -5, by hand", -2, x -> x.note(1, 58, 0, 2, 0));
        full.refused("-3 ahead of -5", -3, x -> x.note(0, 3, 7, 1, 0));
    }

    /** The first of these in that order. */
    private static void noteFirstOfTheRefusals() {
        standing.refused("-1 ahead of -2", -1, x -> x.note(4, 60, 0, -1, 0));
        standing.refused("-1 ahead of -2, by hand", -1, x -> x.note(0, 60, 0, 2, 0));
        standing.refused("-2 ahead of -3, by hand", -2, x -> x.note(0, 3, 7, 2, 0));
        standing.refused("-1 ahead of -2 and -3", -1, x -> x.note(0, 3, 7, 2, 4));
    }

    /** of: NOTHING (-2) without; 0 COPY, 1 PLACE, 2 WORDING, 3 HAND, 4 KIND, 5 shared. */
    private static void ofNumbers() {
        standing.told("of note", -2, (x, n) -> x.of(n, 0), MIN, -1, 9, 199, 200, MAX);
        standing.told("of the first note what", -2, (x, n) -> x.of(0, n), MIN, -1, 6, MAX);
        standing.told("of no note what", -2, (x, n) -> x.of(9, n), -1, 0, 5, 6);
        emptyOne.told("of no notes", -2, x -> x.of(0, 0));
        int[] first = {0, 3, 7, 0, 0, 3};
        int[] last = {1, 9, 9, -1, 0, 1};
        for (int what = 0; what < 6; what++) {
            int w = what;
            standing.told("of the first note " + w, first[w], x -> x.of(0, w));
            standing.told("of the last note " + w, last[w], x -> x.of(8, w));
        }
        Edge full = new Edge(due, () -> Edge.withNotes(200));
        full.told("of the two hundredth note", 3, x -> x.of(199, 0));
        full.told("of one behind it", -2, x -> x.of(200, 0));
    }

    /** shared: how many COPIES have a WRITTEN one with that PLACE and WORDING, 0 unless it is WRITTEN. */
    private static void ofShared() {
        SkyMargins x = Due.withCopies(12);
        for (int copy = 0; copy < 12; copy++) {
            Due.write(x, copy, 59, 0);
            due.is("shared by so many", copy + 1, x.of(0, 5));
            due.is("the newest, too", copy + 1, x.of(copy, 5));
        }
        for (int kind = 1; kind < 4; kind++) {
            int note = x.note(0, 59, 0, -1, kind);
            due.is("not written, of kind " + kind, 0, x.of(note, 5));
            due.is("and not counted", 12, x.of(0, 5));
        }
        int other = Due.write(x, 0, 59, 1);
        int elsewhere = Due.write(x, 0, 58, 0);
        due.is("another wording", 1, x.of(other, 5));
        due.is("another place", 1, x.of(elsewhere, 5));
    }

    /** Many wordings at one place, and the same ones at another: each is shared by those that have just that one. */
    private static void ofSharedByManyWordings() {
        SkyMargins x = Due.withCopies(3);
        int[] up = new int[150];
        int[] down = new int[150];
        for (int i = 0; i < 50; i++) {
            int[] one = {i % 2 == 0 ? 30 : 31, 2 * i, 255};
            System.arraycopy(one, 0, up, 3 * i, 3);
            System.arraycopy(one, 0, down, 147 - 3 * i, 3);
        }
        Due.feed(x, up);
        due.is("up", 50, x.row(0));
        Due.feed(x, down);
        due.is("down", 50, x.row(1));
        for (int i = 0; i < 50; i += 5) {
            Due.write(x, 2, 30, 2 * i);
        }
        for (int note = 0; note < 110; note++) {
            int i = x.of(note, 2) / 2;
            int want = note < 100 ? (i % 10 == 0 ? 3 : 2) : i % 2 == 0 ? 3 : 1;
            due.is("shared " + note, want, x.of(note, 5));
        }
        due.is("the first two agree in all", 500, x.agree(0, 1));
        due.is("the third in every tenth", 50, x.agree(0, 2));
        due.is("costs nothing", 0, x.cost(0, 1));
    }

    /** TERMS: 0 ADD 1 .. 9, 1 LEAVE 0 .. 9, 2 OWN 1 .. 9, 3 LINE 0 .. 1000; -1. */
    private static void termsNumbers() {
        int[] least = {1, 0, 1, 0};
        int[] most = {9, 9, 9, 1000};
        int[] stands = {4, 1, 2, 20};
        for (int what = 0; what < 4; what++) {
            int w = what;
            standing.refused("term " + w, -1, (x, n) -> x.terms(w, n), MIN, -1, least[w] - 1, most[w] + 1, MAX);
            standing.taken("least of term " + w, stands[w], x -> x.terms(w, least[w]));
            standing.taken("most of term " + w, stands[w], x -> x.terms(w, most[w]));
        }
        standing.refused("what", -1, (x, n) -> x.terms(n, 5), MIN, -1, 4, MAX);
    }

    /** terms: what it was (3, 1, 2, 20 at first). */
    private static void termsWhatItWas() {
        int[] first = {3, 1, 2, 20};
        for (int what = 0; what < 4; what++) {
            SkyMargins x = new SkyMargins();
            due.is("at first", first[what], x.terms(what, 9));
            due.is("then", 9, x.terms(what, 9));
            due.is("refused", -1, x.terms(what, 1001));
            due.is("and still", 9, x.terms(what, 1));
            for (int other = 0; other < 4; other++) {
                due.is("the others as at first", other == what ? 1 : first[other], x.terms(other, 5));
            }
        }
    }
}
