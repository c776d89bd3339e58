/** The edges of promises 26 to 29: how two copies agree, families by LINE, what a copy joins. */
public final class FamilyEdgeTest {
    private static final int MIN = Edge.MIN;
    private static final int MAX = Edge.MAX;
    private static final int NOTHING = -1000000;
    private static final Due due = new Due();
    private static final Edge standing = new Edge(due, Edge::standing);
    private static final Edge emptyOne = new Edge(due, SkyMargins::new);
    private static final Edge twelve = new Edge(due, () -> Edge.withCopies(12));

    public static void main(String[] args) {
        agreeNumbers();
        agreeByWrittenOnes();
        agreeAtMost();
        familyNumbers();
        nearByLineAtLeast();
        lineAtItsEnds();
        familyThroughOthers();
        joinsNumbers();
        joinsOfTheOthersAlone();
        due.close();
    }

    /** agree: NONE (the same one, too). */
    private static void agreeNumbers() {
        standing.told("agree of one", -1, (x, n) -> x.agree(n, 0), MIN, -1, 0, 4, 11, 12, MAX);
        standing.told("agree of another", -1, (x, n) -> x.agree(0, n), MIN, -1, 0, 4, 11, 12, MAX);
        standing.told("agree of the same", -1, (x, n) -> x.agree(n, n), MIN, -1, 0, 3, 4, MAX);
        standing.told("agree", 30, x -> x.agree(0, 2));
        standing.told("agree, turned", 30, x -> x.agree(2, 0));
        standing.told("agree in nothing", 0, x -> x.agree(0, 3));
        emptyOne.told("agree of none", -1, x -> x.agree(0, 1));
        twelve.told("agree of the twelfth", 0, x -> x.agree(11, 0));
        twelve.told("agree with the twelfth", 0, x -> x.agree(0, 11));
        twelve.told("agree with a thirteenth", -1, x -> x.agree(0, 12));
    }

    /** AGREE: the WEIGHTS of WRITTEN NOTES that both have. */
    private static void agreeByWrittenOnes() {
        SkyMargins x = Due.withCopies(3);
        for (int kind = 1; kind < 4; kind++) {
            x.note(0, 5, 0, -1, kind);
            x.note(1, 5, 0, -1, kind);
        }
        due.is("none is written", 0, x.agree(0, 1));
        Due.write(x, 0, 5, 0);
        due.is("one of them has it", 0, x.agree(0, 1));
        due.is("wording 0 and a stroke", 0, x.agree(1, 0));
        Due.write(x, 1, 5, 1);
        due.is("another wording", 0, x.agree(0, 1));
        Due.write(x, 1, 6, 0);
        due.is("another place", 0, x.agree(0, 1));
        x.hand(0, 400);
        x.note(1, 5, 0, 0, 0);
        due.is("in another hand, where both are cut", 10, x.agree(0, 1));
        Due.write(x, 0, 5, 1);
        due.is("two at a place", 20, x.agree(0, 1));
        Due.use(x, "weight 0");
        due.is("that weigh nothing", 0, x.agree(0, 1));
        Due.use(x, "weight shared");
        due.is("shared by two", 4, x.agree(0, 1));
        Due.write(x, 2, 5, 1);
        due.is("shared by two and by three", 5, x.agree(0, 1));
    }

    private static void agreeAtMost() {
        SkyMargins x = Due.withCopies(2);
        Due.use(x, "weight 100");
        for (int note = 0; note < 200; note++) {
            Due.write(x, note % 2, note / 2 % 60, note / 120);
        }
        due.is("a hundred notes of both", 10000, x.agree(0, 1));
    }

    /** families: how many there are; family: told by its lowest COPY; NONE. */
    private static void familyNumbers() {
        standing.told("family of", -1, (x, n) -> x.family(n), MIN, -1, 4, 11, 12, MAX);
        standing.told("family of the first", 0, x -> x.family(0));
        standing.told("family of the third", 0, x -> x.family(2));
        standing.told("family of the last", 3, x -> x.family(3));
        standing.told("families", 2, x -> x.families());
        emptyOne.told("family of none", -1, (x, n) -> x.family(n), -1, 0);
        emptyOne.told("no families", 0, x -> x.families());
        twelve.told("families of twelve", 10, x -> x.families());
        twelve.told("family of the twelfth", 11, x -> x.family(11));
        twelve.told("family of a thirteenth", -1, x -> x.family(12));
    }

    /** NEAR are two that AGREE by LINE at least. */
    private static void nearByLineAtLeast() {
        SkyMargins x = Due.withCopies(2);
        Due.write(x, 0, 0, 0);
        Due.write(x, 1, 0, 0);
        due.is("half of the line at first", 2, x.families());
        Due.write(x, 0, 1, 0);
        Due.write(x, 1, 1, 0);
        due.is("the line at first", 1, x.families());
        int[] lines = {19, 20, 21, 1000, 0};
        int[] families = {1, 1, 2, 2, 1};
        for (int i = 0; i < lines.length; i++) {
            x.terms(3, lines[i]);
            due.is("line " + lines[i], families[i], x.families());
            due.is("family by line " + lines[i], families[i] == 1 ? 0 : 1, x.family(1));
        }
    }

    /** LINE 0 .. 1000. */
    private static void lineAtItsEnds() {
        SkyMargins x = Due.withCopies(12);
        x.terms(3, 0);
        due.is("all are near by line 0", 1, x.families());
        for (int copy = 0; copy < 12; copy++) {
            due.is("by line 0", 0, x.family(copy));
        }
        x.terms(3, 1);
        due.is("none by line 1", 12, x.families());
        Due.use(x, "weight 100");
        for (int place = 0; place < 9; place++) {
            Due.write(x, 3, place, 0);
            Due.write(x, 11, place, 0);
        }
        x.terms(3, 1000);
        due.is("agree by 900", 12, x.families());
        due.is("900", 11, x.family(11));
        Due.write(x, 3, 59, 99);
        Due.write(x, 11, 59, 99);
        due.is("agree by 1000", 11, x.families());
        due.is("1000", 3, x.family(11));
        Due.use(x, "weight 100;weight 99 if place=0");
        due.is("agree by 999", 12, x.families());
    }

    /** A FAMILY: all that come together by NEAR ones. */
    private static void familyThroughOthers() {
        SkyMargins x = Due.withCopies(12);
        x.terms(3, 10);
        // A chain in which each is near only to the one that stands here beside it.
        int[] chain = {11, 3, 7, 1, 9, 5, 10, 2, 8, 4, 6};
        for (int i = 0; i + 1 < chain.length; i++) {
            Due.write(x, chain[i], i, 0);
            Due.write(x, chain[i + 1], i, 0);
        }
        due.is("a chain of eleven", 2, x.families());
        due.is("one beside it", 0, x.family(0));
        for (int copy = 1; copy < 12; copy++) {
            due.is("in the chain", 1, x.family(copy));
        }
        due.is("one of the chain's middle", 1, x.joins(5));
        due.is("the chain's end", 0, x.joins(11));
        due.is("the other end", 0, x.joins(6));
        due.is("beside it", 0, x.joins(0));
    }

    /** joins: NOTHING (-1,000,000) without. */
    private static void joinsNumbers() {
        standing.told("joins of", NOTHING, (x, n) -> x.joins(n), MIN, -1, 4, 11, 12, MAX);
        standing.told("joins of the last", 0, x -> x.joins(3));
        emptyOne.told("joins of none", NOTHING, (x, n) -> x.joins(n), -1, 0);
        twelve.told("joins of the twelfth", 0, x -> x.joins(11));
        twelve.told("joins of a thirteenth", NOTHING, x -> x.joins(12));
    }

    /** A COPY JOINS so many as there are more FAMILIES of the others without it than with it. */
    private static void joinsOfTheOthersAlone() {
        SkyMargins x = Due.withCopies(12);
        x.terms(3, 10);
        due.is("alone among others", 0, x.joins(5));
        for (int copy = 0; copy < 11; copy++) {
            Due.write(x, 11, copy, 0);
            Due.write(x, copy, copy, 0);
            due.is("joins so many", copy, x.joins(11));
            due.is("one that is joined", 0, x.joins(copy));
            due.is("families", 11 - copy, x.families());
        }
        x.terms(3, 11);
        due.is("joins none by a higher line", 0, x.joins(11));
        x.terms(3, 0);
        due.is("joins none where all are near", 0, x.joins(11));
        SkyMargins y = Due.withCopies(1);
        due.is("alone", 0, y.joins(0));
        y.copy(0, 0);
        due.is("one of two that are not near", 0, y.joins(0));
        y.terms(3, 0);
        due.is("one of two that are near", 0, y.joins(1));
    }
}
