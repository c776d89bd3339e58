/** The edges of promises 30 to 33: how likely a hand is, exactly; the towns of a hand; dates. */
public final class HandEdgeTest {
    private static final int MIN = Edge.MIN;
    private static final int MAX = Edge.MAX;
    private static final Due due = new Due();
    private static final Edge standing = new Edge(due, Edge::standing);
    private static final Edge emptyOne = new Edge(due, SkyMargins::new);
    private static final Edge twelve = new Edge(due, () -> Edge.withHands(12));

    public static void main(String[] args) {
        timesNumbers();
        timesOfOneHand();
        timesByOneAndSix();
        timesCut();
        timesAMillionAtMost();
        timesOfTheLongest();
        writtenNumbers();
        writtenTheLowest();
        writtenExactly();
        townsNumbers();
        townsWhileItLived();
        townsOfNotes();
        datesNumbers();
        datesWithout();
        datesOfHands();
        datesOfStays();
        datesOfBoth();
        datesThroughAllOfThem();
        due.close();
    }

    /** times: NONE. */
    private static void timesNumbers() {
        standing.told("times of sample", -1, (x, n) -> x.times(n, 0, 1), MIN, -1, 8, MAX);
        standing.told("times for hand", -1, (x, n) -> x.times(0, n, 1), MIN, -1, 2, 11, 12, MAX);
        standing.told("times as for hand", -1, (x, n) -> x.times(0, 1, n), MIN, -1, 2, 11, 12, MAX);
        standing.told("times of the last sample", 0, x -> x.times(7, 0, 1));
        standing.told("times of the last sample, turned", 9, x -> x.times(7, 1, 0));
        emptyOne.told("times without hands", -1, x -> x.times(0, 0, 0));
        twelve.told("times for the twelfth", 1, x -> x.times(1, 11, 0));
        twelve.told("times as for the twelfth", 1, x -> x.times(1, 0, 11));
        twelve.told("times for a thirteenth", -1, x -> x.times(1, 12, 0));
        twelve.told("times as for a thirteenth", -1, x -> x.times(1, 0, 12));
    }

    private static SkyMargins withHands(int[]... hands) {
        SkyMargins x = new SkyMargins();
        for (int hand = 0; hand < hands.length; hand++) {
            x.hand(0, 400);
            for (int form = 0; form < hands[hand].length; form++) {
                x.form(hand, form, hands[hand][form]);
            }
        }
        return x;
    }

    private static void sample(SkyMargins x, int sample, int... many) {
        for (int form = 0; form < 6; form++) {
            x.sample(sample, form, form < many.length ? many[form] : 0);
        }
    }

    /** The same hand twice is as likely as itself; a sample without forms is as likely for all. */
    private static void timesOfOneHand() {
        SkyMargins x = withHands(new int[] {99, 3, 0, 7, 1, 2}, new int[] {0, 0, 0, 0, 0, 99});
        due.is("without forms", 1, x.times(0, 0, 1));
        due.is("without forms, turned", 1, x.times(0, 1, 0));
        sample(x, 3, 99, 99, 99, 99, 99, 99);
        due.is("the same", 1, x.times(3, 0, 0));
        due.is("the other the same", 1, x.times(3, 1, 1));
    }

    /** The HAND's number of it and 1 through all its numbers and 6. */
    private static void timesByOneAndSix() {
        for (int form = 0; form < 6; form++) {
            SkyMargins x = withHands(new int[6], new int[6]);
            x.form(0, form, 99);
            x.sample(5, form, 1);
            // 100 / 105 through 1 / 6.
            due.is("form " + form, 5, x.times(5, 0, 1));
            due.is("turned", 0, x.times(5, 1, 0));
            x.form(1, form, 1);
            // 100 / 105 through 2 / 7.
            due.is("form " + form + " of both", 3, x.times(5, 0, 1));
            x.form(0, (form + 1) % 6, 99);
            // 100 / 204 through 2 / 7.
            due.is("another form of it", 1, x.times(5, 0, 1));
            x.sample(5, form, 2);
            due.is("twice", 2, x.times(5, 0, 1));
        }
    }

    /** TIMES: cut. */
    private static void timesCut() {
        // 20 through 10, 29 through 10, 30 through 10: the totals are alike.
        int[] above = {19, 28, 29, 9, 8, 0};
        int[] times = {2, 2, 3, 1, 0, 0};
        for (int i = 0; i < above.length; i++) {
            SkyMargins x = withHands(new int[] {above[i], 50 - above[i]}, new int[] {9, 41});
            x.sample(0, 0, 1);
            due.is((above[i] + 1) + " through 10", times[i], x.times(0, 0, 1));
        }
    }

    /** TIMES: 1,000,000 at most. */
    private static void timesAMillionAtMost() {
        // (4 / 1) to the 9th times (65 / 52) to the 6th is a million.
        SkyMargins x = withHands(new int[] {3, 64, 0}, new int[] {0, 51, 16});
        sample(x, 0, 9, 6);
        due.is("a million", 1000000, x.times(0, 0, 1));
        due.is("a millionth", 0, x.times(0, 1, 0));
        sample(x, 0, 9, 7);
        due.is("more", 1000000, x.times(0, 0, 1));
        sample(x, 0, 99, 99);
        due.is("far more", 1000000, x.times(0, 0, 1));
        sample(x, 0, 9, 5);
        due.is("a million times 52 through 65", 800000, x.times(0, 0, 1));
        // (33 / 25) to the 38th times (49 / 43) to the 25th: 0.007 less than a million.
        SkyMargins y = withHands(new int[] {32, 48, 0}, new int[] {24, 42, 14});
        sample(y, 0, 38, 25);
        due.is("just less than a million", 999999, y.times(0, 0, 1));
        // (97 / 25) to the 4th times (61 / 43) to the 24th: 0.02 more.
        SkyMargins z = withHands(new int[] {96, 60, 0}, new int[] {24, 42, 90});
        sample(z, 0, 4, 24);
        due.is("just more than a million", 1000000, z.times(0, 0, 1));
    }

    /** As long as the numbers can be: each form 99 times. */
    private static void timesOfTheLongest() {
        SkyMargins x = withHands(new int[] {99, 99, 99, 99, 99, 99}, new int[6], new int[] {96, 96, 96, 96, 96, 96});
        sample(x, 0, 99, 99, 99, 99, 99, 99);
        for (int one = 0; one < 3; one++) {
            for (int other = 0; other < 3; other++) {
                due.is("each form a sixth of the times", 1, x.times(0, one, other));
            }
        }
        x.form(0, 0, 98);
        due.is("just less", 0, x.times(0, 0, 1));
        due.is("just more", 1, x.times(0, 1, 0));
        x.form(2, 0, 0);
        due.is("far more", 1000000, x.times(0, 0, 2));
        due.is("far less", 0, x.times(0, 2, 0));
        due.is("written by the one with each alike", 1, x.written(0));
    }

    /** written: NONE. */
    private static void writtenNumbers() {
        standing.told("written", -1, (x, n) -> x.written(n), MIN, -1, 8, MAX);
        standing.told("written, the first sample", 0, x -> x.written(0));
        standing.told("written, the last sample", 1, x -> x.written(7));
        emptyOne.told("written without hands", -1, (x, n) -> x.written(n), 0, 7);
        SkyMargins x = withHands(new int[6], new int[6], new int[6], new int[6], new int[6], new int[6], new int[6],
            new int[6], new int[6], new int[6], new int[6], new int[] {5});
        x.sample(7, 0, 1);
        due.is("the twelfth hand", 11, x.written(7));
        SkyMargins y = withHands(new int[] {5});
        y.sample(0, 1, 99);
        due.is("one hand is the most likely", 0, y.written(0));
    }

    /** written: the HAND for which a SAMPLE is most LIKELY (the lowest). */
    private static void writtenTheLowest() {
        SkyMargins x = withHands(new int[6], new int[6], new int[] {7, 3}, new int[] {7, 3}, new int[] {3, 7});
        due.is("without forms", 0, x.written(0));
        sample(x, 0, 1, 1);
        due.is("three alike", 2, x.written(0));
        sample(x, 0, 1, 2);
        due.is("the last", 4, x.written(0));
        sample(x, 0, 0, 0, 0, 0, 0, 1);
        due.is("two that have none", 0, x.written(0));
        // 4 times 9 is 6 times 6, to any power.
        for (int many = 1; many <= 99; many += 7) {
            SkyMargins y = withHands(new int[] {3, 8, 5}, new int[] {5, 5, 6}, new int[] {8, 3, 5});
            sample(y, 0, many, many);
            due.is("alike by other numbers", 0, y.written(0));
            due.is("alike", 1, y.times(0, 1, 0));
            due.is("alike, turned", 1, y.times(0, 0, 1));
            SkyMargins z = withHands(new int[] {5, 5, 6}, new int[] {3, 8, 5});
            sample(z, 0, many, many);
            due.is("alike by other numbers, turned", 0, z.written(0));
        }
    }

    /** The likelier one, however little. */
    private static void writtenExactly() {
        // (79 / 100) to the 25th times (94 / 45) to the 8th is 1.000000002.
        int[] one = {78, 93, 0};
        int[] other = {99, 44, 28};
        SkyMargins x = withHands(one, other);
        sample(x, 0, 25, 8);
        due.is("a bit likelier", 0, x.written(0));
        due.is("a bit more than once", 1, x.times(0, 0, 1));
        due.is("a bit less than once", 0, x.times(0, 1, 0));
        SkyMargins y = withHands(other, one);
        sample(y, 0, 25, 8);
        due.is("a bit likelier, the higher one", 1, y.written(0));
    }

    /** towns: NONE. */
    private static void townsNumbers() {
        standing.told("towns of hand", -1, (x, n) -> x.towns(n), MIN, -1, 2, 11, 12, MAX);
        standing.told("towns of the first", 1, x -> x.towns(0));
        standing.told("towns of the last", 2, x -> x.towns(1));
        emptyOne.told("towns without hands", -1, x -> x.towns(0));
        twelve.told("towns of the twelfth", 0, x -> x.towns(11));
        twelve.told("towns of a thirteenth", -1, x -> x.towns(12));
    }

    /** TOWNS of COPIES that stayed there while it lived. */
    private static void townsWhileItLived() {
        int[][] lived = {{0, 0}, {400, 400}, {100, 200}, {0, 400}};
        int[][] stays = {{0, 0}, {1, 399}, {400, 400}, {0, 99}, {0, 100}, {100, 100}, {99, 99}, {200, 200}, {201, 201},
            {200, 400}, {201, 400}, {0, 400}, {150, 150}};
        for (int[] years : lived) {
            for (int[] stay : stays) {
                SkyMargins x = Due.withCopies(1);
                x.hand(years[0], years[1]);
                x.note(0, 0, 0, 0, 0);
                x.stay(0, 31, stay[0], stay[1]);
                boolean met = false;
                for (int year = years[0]; year <= years[1]; year++) {
                    met |= year >= stay[0] && year <= stay[1];
                }
                due.is(years[0] + " " + stay[0] + " " + stay[1], met ? 1 : 0, x.towns(0));
            }
        }
        SkyMargins x = Due.withCopies(2);
        x.hand(0, 400);
        x.note(0, 0, 0, 0, 0);
        for (int town = 0; town < 32; town++) {
            x.stay(0, town, 5, 5);
            due.is("towns", town + 1, x.towns(0));
        }
        x.stay(0, 31, 7, 7);
        x.note(1, 0, 0, 0, 0);
        x.stay(1, 0, 7, 7);
        due.is("each town once", 32, x.towns(0));
    }

    /** NOTES of a HAND, of any KIND. */
    private static void townsOfNotes() {
        for (int kind = 0; kind < 4; kind++) {
            SkyMargins x = Due.withCopies(2);
            x.hand(0, 400);
            x.hand(0, 400);
            x.stay(0, 1, 0, 0);
            x.stay(1, 2, 0, 0);
            x.note(0, 0, 0, -1, kind);
            due.is("in no known hand", 0, x.towns(0));
            x.note(0, 1, 0, 1, kind);
            due.is("in the other hand", 0, x.towns(0));
            due.is("of the other hand", 1, x.towns(1));
            x.note(1, 1, 0, 0, kind);
            due.is("in the hand", 1, x.towns(0));
            x.note(1, 2, 0, 1, kind);
            due.is("in two copies", 2, x.towns(1));
        }
    }

    /** dates: NONE. */
    private static void datesNumbers() {
        for (int what = 0; what < 4; what++) {
            int w = what;
            standing.told("dates " + w + " of", -1, (x, n) -> x.dates(n, w), MIN, -1, 4, 11, 12, MAX);
            Edge copies = new Edge(due, () -> Edge.withCopies(12));
            copies.told("dates of the twelfth " + w, w % 2 == 0 ? 0 : 400, x -> x.dates(11, w));
            copies.told("dates of a thirteenth " + w, -1, x -> x.dates(12, w));
        }
        standing.told("dates what", -1, (x, n) -> x.dates(0, n), MIN, -1, 4, MAX);
        emptyOne.told("dates of none", -1, (x, n) -> x.dates(0, n), 0, 3);
    }

    private static void dates(String what, SkyMargins x, int copy, int... want) {
        for (int i = 0; i < want.length; i++) {
            due.is(what + " " + i, want[i], x.dates(copy, i));
        }
    }

    /** 0, 400 without. */
    private static void datesWithout() {
        SkyMargins x = Due.withCopies(2);
        dates("nothing", x, 0, 0, 400, 0, 400);
        x.hand(100, 200);
        dates("a hand that it has not", x, 0, 0, 400);
        x.note(1, 0, 0, 0, 0);
        dates("a hand of another copy", x, 0, 0, 400);
        x.stay(1, 0, 150, 160);
        dates("a stay of another copy", x, 0, 0, 400);
        x.note(0, 1, 0, -1, 0);
        dates("a note in no known hand", x, 0, 0, 400);
        x.note(0, 2, 0, 0, 0);
        dates("a note in a hand", x, 0, 100, 200);
    }

    /** From the latest of the first YEARS in which its known HANDS lived to the earliest of the last ones. */
    private static void datesOfHands() {
        for (int kind = 0; kind < 4; kind++) {
            SkyMargins x = Due.withCopies(1);
            x.hand(0, 400);
            x.hand(100, 200);
            x.hand(50, 150);
            x.hand(250, 300);
            x.hand(400, 400);
            x.hand(0, 0);
            int[] from = {0, 100, 100, 250, 400, 400};
            int[] to = {400, 200, 150, 150, 150, 0};
            for (int hand = 0; hand < 6; hand++) {
                x.note(0, hand, 0, hand, kind);
                dates("hands to " + hand + " of kind " + kind, x, 0, from[hand], to[hand]);
            }
        }
        SkyMargins y = Due.withCopies(1);
        for (int hand = 0; hand < 12; hand++) {
            y.hand(hand == 11 ? 300 : 1, hand == 11 ? 350 : 399);
        }
        y.note(0, 0, 0, 11, 0);
        dates("the twelfth hand", y, 0, 300, 350);
    }

    /** And its earliest STAY, its latest STAY. */
    private static void datesOfStays() {
        SkyMargins x = Due.withCopies(1);
        x.stay(0, 0, 100, 200);
        dates("one stay", x, 0, 100, 200);
        x.stay(0, 1, 150, 300);
        dates("a later end", x, 0, 100, 300);
        x.stay(0, 2, 50, 60);
        dates("an earlier start", x, 0, 50, 300);
        x.stay(0, 3, 120, 130);
        dates("one within", x, 0, 50, 300);
        x.stay(0, 3, 0, 0);
        dates("the first year", x, 0, 0, 300);
        x.stay(0, 3, 400, 400);
        dates("the last year", x, 0, 0, 400);
        SkyMargins y = Due.withCopies(1);
        y.stay(0, 0, 0, 0);
        dates("in the first year alone", y, 0, 0, 0);
        SkyMargins z = Due.withCopies(1);
        z.stay(0, 0, 400, 400);
        dates("in the last year alone", z, 0, 400, 400);
    }

    private static void datesOfBoth() {
        int[][] cases = {{100, 200, 90, 210, 100, 200}, {100, 200, 110, 190, 110, 190}, {100, 200, 90, 190, 100, 190},
            {100, 200, 110, 210, 110, 200}, {100, 200, 300, 310, 300, 200}, {100, 200, 10, 20, 100, 20},
            {100, 200, 100, 200, 100, 200}};
        for (int[] c : cases) {
            SkyMargins x = Due.withCopies(1);
            x.hand(c[0], c[1]);
            x.note(0, 0, 0, 0, 0);
            x.stay(0, 0, c[2], c[3]);
            dates("hand and stay", x, 0, c[4], c[5], c[4], c[5]);
        }
    }

    /** By the FIRST TREE: through all of them. */
    private static void datesThroughAllOfThem() {
        SkyMargins x = Due.withCopies(12);
        for (int copy = 0; copy < 12; copy++) {
            // A chain: copy and the next one met; the first year goes back by each, the last year, too.
            x.hand(200 - 10 * copy, 400 - 10 * copy);
            x.note(copy, 0, 0, copy, 0);
            x.stay(copy, copy, 0, 400);
            x.stay(copy, copy + 1, 0, 400);
        }
        for (int copy = 0; copy < 12; copy++) {
            due.is("a chain", copy == 0 ? 100 : copy - 1, x.whose(copy));
            dates("in the chain", x, copy, 200 - 10 * copy, 400 - 10 * copy, 200, 290);
        }
        // One that comes of nobody, and of whom none comes, has its own alone.
        SkyMargins y = Due.withCopies(3);
        int[][] lived = {{100, 300}, {50, 350}, {150, 250}};
        for (int copy = 0; copy < 3; copy++) {
            y.hand(lived[copy][0], lived[copy][1]);
            y.note(copy, 0, 0, copy, 0);
        }
        y.stay(2, 0, 0, 400);
        y.stay(1, 1, 0, 400);
        y.stay(0, 1, 0, 400);
        due.is("by itself", 100, y.whose(2));
        dates("by itself", y, 2, 150, 250, 150, 250);
        dates("not ahead of its exemplar", y, 1, 50, 350, 100, 350);
        dates("not behind those that have it", y, 0, 100, 300, 100, 300);
    }
}
