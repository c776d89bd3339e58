/** The edges of promises 36 to 40: lists, what a censor struck, late notes, what to look up next. */
public final class ListEdgeTest {
    private static final int MIN = Edge.MIN;
    private static final int MAX = Edge.MAX;
    private static final Due due = new Due();
    private static final Edge standing = new Edge(due, Edge::standing);
    private static final Edge emptyOne = new Edge(due, SkyMargins::new);
    private static final Edge twelve = new Edge(due, () -> Edge.withCopies(12));
    private static final Edge eight = new Edge(due, () -> Edge.withTexts(8));

    public static void main(String[] args) {
        manyNumbers();
        manyCut();
        manyOfEachList();
        chaoOfTwelve();
        chaoWithoutTwice();
        chaoCut();
        censorNumbers();
        censorOfLandsLookedAt();
        censorAllSomeNone();
        censorThinAndThick();
        censorAtAllPlaces();
        lateNumbers();
        lateOfOneAndOfAll();
        nextNumbers();
        nextWithoutSuchACopy();
        nextOfAlikeOnes();
        nextOfMost();
        due.close();
    }

    private static SkyMargins withLists(int... lists) {
        SkyMargins x = new SkyMargins();
        for (int list : lists) {
            x.copy(0, list);
        }
        return x;
    }

    /** many: LISTS 0 .. 5; NONE (none in both, the same LIST, too). */
    private static void manyNumbers() {
        standing.told("many of list", -1, (x, n) -> x.many(n, 0), MIN, -1, 0, 6, 31, 32, 64, MAX);
        standing.told("many of another list", -1, (x, n) -> x.many(0, n), MIN, -1, 0, 6, 31, 32, 64, MAX);
        standing.told("many of the same list", -1, (x, n) -> x.many(n, n), MIN, -1, 0, 1, 5, 6, MAX);
        standing.told("many of the first two", 4, x -> x.many(0, 1));
        standing.told("many of the last two", 1, x -> x.many(4, 5));
        emptyOne.told("many without copies", -1, x -> x.many(0, 1));
        due.is("none in both", -1, withLists(1, 2, 1, 2).many(0, 1));
        due.is("none in one", -1, withLists(1, 1).many(0, 1));
        due.is("none in the other", -1, withLists(1, 1).many(1, 0));
        due.is("one in both", 1, withLists(3).many(0, 1));
    }

    /** LINCOLN: cut. */
    private static void manyCut() {
        due.is("4 times 3 through 2", 6, withLists(3, 3, 1, 1, 2).many(0, 1));
        due.is("5 times 3 through 2", 7, withLists(3, 3, 1, 1, 1, 2).many(0, 1));
        due.is("5 times 4 through 3", 6, withLists(3, 3, 3, 1, 1, 2).many(0, 1));
        due.is("6 times 7 through 1", 42, withLists(3, 1, 1, 1, 1, 1, 2, 2, 2, 2, 2, 2).many(0, 1));
        due.is("12 times 12 through 12", 12, withLists(3, 3, 3, 3, 3, 3, 3, 3, 3, 3, 3, 3).many(0, 1));
        due.is("others in neither", 1, withLists(3, 0, 4, 60).many(0, 1));
    }

    private static void manyOfEachList() {
        for (int one = 0; one < 6; one++) {
            for (int other = 0; other < 6; other++) {
                SkyMargins x = withLists(1 << one | 1 << other, 1 << one, 1 << one, 1 << other);
                due.is("lists " + one + " " + other, one == other ? -1 : 3 * 2, x.many(one, other));
            }
        }
    }

    /** CHAO: those in any LIST, and those in just one, times themselves, through twice those in just two. */
    private static void chaoOfTwelve() {
        emptyOne.told("chao without copies", 0, x -> x.chao());
        due.is("one in no list", 0, withLists(0).chao());
        due.is("all in no list", 0, withLists(0, 0, 0, 0, 0, 0, 0, 0, 0, 0, 0, 0).chao());
        due.is("all in all lists", 12, withLists(63, 63, 63, 63, 63, 63, 63, 63, 63, 63, 63, 63).chao());
        due.is("all in two lists", 12, withLists(3, 5, 9, 17, 33, 6, 10, 18, 34, 48, 40, 24).chao());
        due.is("all in one list", 12 + 66, withLists(1, 2, 4, 8, 16, 32, 1, 2, 4, 8, 16, 32).chao());
        due.is("one in two, the others in one", 12 + 60, withLists(3, 2, 4, 8, 16, 32, 1, 2, 4, 8, 16, 32).chao());
        due.is("one in three, the others in one", 12 + 55, withLists(7, 2, 4, 8, 16, 32, 1, 2, 4, 8, 16, 32).chao());
    }

    /** Without these: times 1 less themselves through 2. */
    private static void chaoWithoutTwice() {
        due.is("none in one", 1, withLists(7, 0).chao());
        due.is("one in one", 1, withLists(1, 0).chao());
        due.is("two in one", 2 + 1, withLists(1, 1, 0).chao());
        due.is("three in one", 3 + 3, withLists(32, 16, 8).chao());
        due.is("two in one, one in three", 3 + 1, withLists(32, 16, 7).chao());
    }

    /** Cut. */
    private static void chaoCut() {
        due.is("1 through 2", 2, withLists(1, 3).chao());
        due.is("4 through 2", 3 + 2, withLists(1, 1, 3).chao());
        due.is("9 through 2", 4 + 4, withLists(1, 1, 1, 3).chao());
        due.is("9 through 4", 5 + 2, withLists(1, 1, 1, 3, 6).chao());
        due.is("25 through 6", 8 + 4, withLists(1, 1, 1, 1, 1, 3, 3, 3).chao());
        due.is("0 through 2", 1, withLists(3).chao());
        due.is("1 through 2, one in no list", 2, withLists(1, 3, 0).chao());
    }

    /** censor: NONE. */
    private static void censorNumbers() {
        for (int what = 0; what < 6; what++) {
            int w = what;
            standing.told("censor " + w + " in land", -1, (x, n) -> x.censor(n, 0, w), MIN, -1, 8, MAX);
            standing.told("censor " + w + " by text", -1, (x, n) -> x.censor(1, n, w), MIN, -2, -1, 2, 7, 8, MAX);
        }
        standing.told("censor what", -1, (x, n) -> x.censor(1, 0, n), MIN, -1, 6, MAX);
        standing.told("censor in the first land", 0, x -> x.censor(0, 0, 0));
        standing.told("censor in a land", 1, x -> x.censor(1, 0, 0));
        standing.told("censor by the last text", 1, x -> x.censor(1, 1, 0));
        eight.told("censor by the eighth text", 1, x -> x.censor(1, 7, 0));
        eight.told("censor by a ninth", -1, x -> x.censor(1, 8, 0));
        emptyOne.told("censor without texts", -1, (x, n) -> x.censor(0, n, 0), -1, 0);
        SkyMargins x = new SkyMargins();
        int text = Due.text(x, "struck");
        for (int land = 0; land < 8; land++) {
            for (int what = 0; what < 6; what++) {
                due.is("censor without copies", 0, x.censor(land, text, what));
            }
        }
    }

    /** COPIES there LOOKED at. */
    private static void censorOfLandsLookedAt() {
        SkyMargins x = new SkyMargins();
        int text = Due.text(x, "struck if place<2");
        for (int copy = 0; copy < 12; copy++) {
            x.copy(copy < 4 ? 0 : 7, 0);
            x.note(copy, 0, 0, -1, 2);
            x.note(copy, 1, 0, -1, 3);
        }
        for (int what = 0; what < 6; what++) {
            due.is("none looked at", 0, x.censor(7, text, what));
        }
        int[] want = {0, 0, 0, 0, 0, 0};
        for (int copy = 11; copy >= 4; copy--) {
            x.look(copy, 1);
            want[0]++;
            want[1]++;
            want[4]++;
            want[5]++;
            for (int what = 0; what < 6; what++) {
                due.is("looked at to " + copy + ", " + what, want[what], x.censor(7, text, what));
                due.is("in another land", 0, x.censor(0, text, what));
            }
        }
        x.look(5, 0);
        due.is("one less", 7, x.censor(7, text, 0));
        x.look(0, 1);
        due.is("in the first land", 1, x.censor(0, text, 0));
        due.is("obeyed there", 1, x.censor(0, text, 1));
        due.is("between them", 0, x.censor(3, text, 0));
    }

    private static void groups(String what, SkyMargins x, int text, int all, int some, int none) {
        due.is(what + ", all", all, x.censor(0, text, 1));
        due.is(what + ", some", some, x.censor(0, text, 2));
        due.is(what + ", none", none, x.censor(0, text, 3));
    }

    /** OBEYED at all PLACES (1), at some, not all (2), at none of some (3). */
    private static void censorAllSomeNone() {
        SkyMargins x = Due.withCopies(1);
        x.look(0, 1);
        int three = Due.text(x, "struck if place=0 or place=30 or place=59");
        int one = Due.text(x, "struck if place=30");
        int never = Due.text(x, "struck if 1=2;late");
        int broken = Due.text(x, "struck if 1/0=1");
        groups("without strokes", x, three, 0, 0, 1);
        groups("without strokes, one place", x, one, 0, 0, 1);
        groups("without places, nothing is not obeyed", x, never, 1, 0, 0);
        groups("a broken one strikes nowhere", x, broken, 1, 0, 0);
        x.note(0, 1, 0, -1, 3);
        x.note(0, 0, 0, -1, 1);
        Due.write(x, 0, 30, 0);
        groups("strokes elsewhere, cut, written", x, three, 0, 0, 1);
        x.note(0, 59, 0, -1, 2);
        groups("at one of three", x, three, 0, 1, 0);
        groups("at none of one", x, one, 0, 0, 1);
        x.note(0, 0, 0, -1, 3);
        groups("at two of three", x, three, 0, 1, 0);
        x.note(0, 30, 0, -1, 2);
        groups("at three of three", x, three, 1, 0, 0);
        groups("at one of one", x, one, 1, 0, 0);
        x.note(0, 29, 0, -1, 2);
        groups("at others, too", x, three, 1, 0, 0);
        groups("without places, though there are strokes", x, never, 1, 0, 0);
    }

    /** If there is a THIN or THICK one; THIN strokes at these PLACES (4), THICK ones (5). */
    private static void censorThinAndThick() {
        SkyMargins x = Due.withCopies(1);
        x.look(0, 1);
        int text = Due.text(x, "struck if place<2");
        int never = Due.text(x, "late");
        x.note(0, 0, 0, -1, 2);
        due.is("thin", 1, x.censor(0, text, 4));
        due.is("not thick", 0, x.censor(0, text, 5));
        groups("thin alone", x, text, 0, 1, 0);
        x.note(0, 0, 0, -1, 3);
        due.is("thin, where both are", 1, x.censor(0, text, 4));
        due.is("thick, where both are", 1, x.censor(0, text, 5));
        groups("both at one place are one", x, text, 0, 1, 0);
        x.note(0, 1, 0, -1, 3);
        due.is("thin still", 1, x.censor(0, text, 4));
        due.is("thick twice", 2, x.censor(0, text, 5));
        groups("thin and thick", x, text, 1, 0, 0);
        x.note(0, 2, 0, -1, 2);
        x.note(0, 2, 0, -1, 3);
        due.is("thin elsewhere", 1, x.censor(0, text, 4));
        due.is("thick elsewhere", 2, x.censor(0, text, 5));
        due.is("thin at none", 0, x.censor(0, never, 4));
        due.is("thick at none", 0, x.censor(0, never, 5));
    }

    private static void censorAtAllPlaces() {
        SkyMargins x = Due.withCopies(2);
        x.look(1, 1);
        int text = Due.text(x, "struck");
        for (int place = 0; place < 60; place++) {
            due.is("places to " + place, place, x.censor(0, text, 4));
            groups("to " + place, x, text, 0, place > 0 ? 1 : 0, place > 0 ? 0 : 1);
            x.note(1, place, 0, -1, 2);
        }
        due.is("sixty places", 60, x.censor(0, text, 4));
        groups("all of sixty", x, text, 1, 0, 0);
    }

    /** late: NONE; of a COPY (NONE: of all). */
    private static void lateNumbers() {
        standing.told("late by text", -1, (x, n) -> x.late(n, 0), MIN, -2, -1, 2, 7, 8, MAX);
        standing.told("late by text, of all", -1, (x, n) -> x.late(n, -1), MIN, -2, -1, 2, 8, MAX);
        standing.told("late in", -1, (x, n) -> x.late(0, n), MIN, -2, 4, 11, 12, MAX);
        standing.told("late of all", 9, x -> x.late(1, SkyMargins.NONE));
        standing.told("late in the last", 3, x -> x.late(1, 3));
        standing.told("late in the first", 2, x -> x.late(1, 0));
        eight.told("late by the eighth text", 2, x -> x.late(7, -1));
        eight.told("late by a ninth", -1, x -> x.late(8, -1));
        twelve.told("late in the twelfth", 0, x -> x.late(1, 11));
        twelve.told("late in a thirteenth", -1, x -> x.late(1, 12));
        emptyOne.told("late without texts", -1, (x, n) -> x.late(n, -1), -1, 0);
        SkyMargins x = new SkyMargins();
        int text = Due.text(x, "late");
        due.is("of all without notes", 0, x.late(text, -1));
        due.is("of no copy", -1, x.late(text, 0));
    }

    /** How many NOTES: of each kind, all two hundred of them. */
    private static void lateOfOneAndOfAll() {
        SkyMargins x = Due.withCopies(3);
        int text = Due.text(x, "late");
        int kinds = Due.text(x, "late if kind>0");
        int never = Due.text(x, "struck;weight 1");
        for (int kind = 0; kind < 4; kind++) {
            x.note(1, 7, 0, -1, kind);
            due.is("of the copy", kind + 1, x.late(text, 1));
            due.is("of all", kind + 1, x.late(text, -1));
            due.is("of others", 0, x.late(text, 0) + x.late(text, 2));
            due.is("of kinds", kind, x.late(kinds, -1));
        }
        int[] bytes = new int[3 * 98];
        for (int copy = 0; copy < 3; copy += 2) {
            for (int i = 0; i < bytes.length; i += 3) {
                bytes[i] = i / 3 % 60;
                bytes[i + 1] = i / 180;
                bytes[i + 2] = 255;
            }
            Due.feed(x, bytes);
            due.is("row", 98, x.row(copy));
        }
        due.is("two hundred", 200, x.late(text, -1));
        due.is("of the last copy", 98, x.late(text, 2));
        due.is("of the first copy", 98, x.late(text, 0));
        due.is("none is late", 0, x.late(never, -1));
        x.use(never);
        due.is("by the text that is asked for, not that in use", 200, x.late(text, -1));
    }

    /** next: NONE for others. */
    private static void nextNumbers() {
        standing.told("next what", -1, (x, n) -> x.next(n), MIN, -1, 2, MAX);
        standing.told("next", 1, x -> x.next(0));
        standing.told("next, of how many", 1, x -> x.next(1));
    }

    /** NONE without such a COPY. */
    private static void nextWithoutSuchACopy() {
        emptyOne.told("next without copies", -1, (x, n) -> x.next(n), 0, 1);
        SkyMargins x = Due.withCopies(1);
        due.is("one not looked at", 0, x.next(0));
        due.is("of none", 0, x.next(1));
        x.look(0, 1);
        due.is("one looked at", -1, x.next(0));
        due.is("one looked at, of how many", -1, x.next(1));
        SkyMargins y = Due.withCopies(12);
        for (int copy = 0; copy < 12; copy++) {
            due.is("next", copy, y.next(0));
            due.is("of so many", copy, y.next(1));
            y.look(copy, 1);
        }
        due.is("all looked at", -1, y.next(0));
        due.is("all looked at, of how many", -1, y.next(1));
        y.look(11, 0);
        due.is("the last is not", 11, y.next(0));
        due.is("of all others", 11, y.next(1));
    }

    /** Of alike ones the lowest. */
    private static void nextOfAlikeOnes() {
        for (int looked = 0; looked < 12; looked++) {
            SkyMargins x = Due.withCopies(12);
            x.look(looked, 1);
            due.is("the lowest not looked at", looked == 0 ? 1 : 0, x.next(0));
            due.is("of one", 1, x.next(1));
        }
        // None may be the exemplar of the one looked at: of alike ones the lowest, of none.
        SkyMargins y = Due.withCopies(3);
        for (int copy = 0; copy < 3; copy++) {
            y.stay(copy, copy, 0, 0);
        }
        y.look(0, 1);
        due.is("of none, the lowest", 1, y.next(0));
        due.is("of none", 0, y.next(1));
        y.stay(2, 0, 0, 0);
        due.is("of one", 2, y.next(0));
        due.is("of one, how many", 1, y.next(1));
        y.stay(1, 0, 0, 0);
        due.is("both of one, the lowest", 1, y.next(0));
    }

    /** That MAY be the exemplar of most others that are. */
    private static void nextOfMost() {
        SkyMargins x = Due.withCopies(5);
        x.look(1, 1);
        x.look(3, 1);
        x.stay(1, 1, 10, 10);
        x.stay(3, 3, 10, 10);
        x.stay(0, 2, 10, 10);
        x.stay(2, 1, 10, 10);
        x.stay(4, 1, 10, 10);
        x.stay(4, 3, 10, 10);
        due.is("the one that met both", 4, x.next(0));
        due.is("two", 2, x.next(1));
        x.look(4, 1);
        due.is("the one that met two of three", 2, x.next(0));
        due.is("two of three", 2, x.next(1));
        // Those that are not looked at do not count.
        x.look(4, 0);
        x.look(1, 0);
        x.look(3, 0);
        x.look(0, 1);
        due.is("of those not looked at none counts", 1, x.next(0));
        due.is("nor how many", 0, x.next(1));
    }
}
