import java.util.Random;

/** The edges of promises 19 to 25: who may be whose exemplar, costs, the first of the best trees, two exemplars. */
public final class TreeEdgeTest {
    private static final int MIN = Edge.MIN;
    private static final int MAX = Edge.MAX;
    private static final int NOTHING = -1000000;
    private static final Due due = new Due();
    private static final Edge standing = new Edge(due, Edge::standing);
    private static final Edge emptyOne = new Edge(due, SkyMargins::new);
    private static final Edge twelve = new Edge(due, () -> Edge.withCopies(12));

    public static void main(String[] args) {
        mayNumbers();
        mayYears();
        mayWithoutStays();
        costNumbers();
        costOfNobody();
        costOfAll();
        costWhereCut();
        treeWithoutCopies();
        treeOfNone();
        whoseNumbers();
        nobodyAheadOfAll();
        lowerNumberAhead();
        firstCopyAhead();
        noneComesOfItself();
        sureNumbers();
        sureIfAllHaveIt();
        allTreesOfFew();
        comeNumbers();
        comeOfTwelve();
        netNumbers();
        netWithoutTwo();
        netOfAlikeOnes();
        netWhereBothAreCut();
        netGains();
        due.close();
    }

    /** may: NONE (the same one, too). */
    private static void mayNumbers() {
        standing.told("may the exemplar", -1, (x, n) -> x.may(n, 0), MIN, -2, -1, 0, 4, 11, 12, MAX);
        standing.told("may of the copy", -1, (x, n) -> x.may(0, n), MIN, -2, -1, 0, 4, 11, 12, MAX);
        standing.told("may, the same one", -1, (x, n) -> x.may(n, n), MIN, -1, 0, 3, 4, MAX);
        standing.told("may, the last one", 1, x -> x.may(3, 2));
        standing.told("may, of the last one", 1, x -> x.may(2, 3));
        emptyOne.told("may of none", -1, x -> x.may(0, 1));
        twelve.told("may of twelve", 1, x -> x.may(11, 10));
        twelve.told("may of the twelfth", 1, x -> x.may(0, 11));
        twelve.told("may of a thirteenth", -1, (x, n) -> x.may(n, 0), 12, 13);
    }

    private static void may(int want, int[] one, int[] other) {
        SkyMargins x = Due.withCopies(2);
        x.stay(0, one[0], one[1], one[2]);
        x.stay(1, other[0], other[1], other[2]);
        String years = one[1] + "-" + one[2] + " and " + other[1] + "-" + other[2];
        due.is("may " + years, want, x.may(0, 1));
        due.is("may, turned, " + years, want, x.may(1, 0));
    }

    /** If both stayed in one TOWN in a YEAR. */
    private static void mayYears() {
        may(1, new int[] {0, 10, 20}, new int[] {0, 20, 30});
        may(0, new int[] {0, 10, 20}, new int[] {0, 21, 30});
        may(1, new int[] {0, 10, 20}, new int[] {0, 15, 15});
        may(1, new int[] {0, 10, 20}, new int[] {0, 0, 400});
        may(1, new int[] {31, 0, 0}, new int[] {31, 0, 0});
        may(1, new int[] {31, 400, 400}, new int[] {31, 400, 400});
        may(0, new int[] {31, 0, 0}, new int[] {31, 1, 1});
        may(0, new int[] {31, 399, 399}, new int[] {31, 400, 400});
        may(0, new int[] {0, 0, 400}, new int[] {31, 0, 400});
        may(0, new int[] {0, 0, 400}, new int[] {1, 0, 400});
        may(0, new int[] {30, 0, 400}, new int[] {31, 0, 400});
        // Of many stays one is enough; the years of one in the town of another are not.
        SkyMargins x = Due.withCopies(3);
        x.stay(0, 1, 10, 20);
        x.stay(0, 2, 30, 40);
        x.stay(1, 1, 30, 40);
        x.stay(1, 2, 10, 20);
        due.is("never in one town", 0, x.may(0, 1));
        x.stay(1, 2, 40, 41);
        due.is("then", 1, x.may(0, 1));
        due.is("and turned", 1, x.may(1, 0));
        x.stay(2, 1, 35, 35);
        due.is("another copy's stay", 0, x.may(0, 2));
        due.is("another copy's stay there", 1, x.may(1, 2));
    }

    /** One without STAYS was anywhere. */
    private static void mayWithoutStays() {
        SkyMargins x = Due.withCopies(3);
        due.is("neither stayed", 1, x.may(0, 1));
        x.stay(0, 1, 10, 20);
        due.is("the exemplar stayed", 1, x.may(0, 1));
        due.is("the copy stayed", 1, x.may(1, 0));
        x.stay(1, 2, 10, 20);
        due.is("both stayed", 0, x.may(0, 1));
        due.is("the third did not", 1, x.may(2, 1));
        x.stay(2, 3, 0, 400);
        due.is("now it did", 0, x.may(2, 1));
        due.is("from the other, too", 0, x.may(0, 2));
    }

    /** cost: NONE; NONE as the exemplar: nobody. */
    private static void costNumbers() {
        standing.told("cost from", -1, (x, n) -> x.cost(n, 0), MIN, -2, 0, 4, 11, 12, 100, MAX);
        standing.told("cost of", -1, (x, n) -> x.cost(0, n), MIN, -2, -1, 0, 4, 11, 12, MAX);
        standing.told("cost from nobody of", -1, (x, n) -> x.cost(-1, n), MIN, -1, 4, 11, 12, MAX);
        standing.told("cost from itself", -1, (x, n) -> x.cost(n, n), MIN, -1, 0, 3, 4, MAX);
        emptyOne.told("cost of none", -1, (x, n) -> x.cost(n, 0), -1, 0, 1);
        // Copy 3 has place 3 with wording 1 (30); copy 2 has place 3 with 7 (30), and place 59 with 99 (10).
        standing.told("cost of the last from nobody", 60, x -> x.cost(-1, 3));
        standing.told("cost of the last from the one ahead", 4 * 30 + 40, x -> x.cost(2, 3));
        standing.told("cost of that from the last", 4 * 40 + 30, x -> x.cost(3, 2));
        twelve.told("cost of the twelfth from the first", 30, x -> x.cost(0, 11));
        twelve.told("cost from a thirteenth", -1, x -> x.cost(12, 0));
    }

    /** COST from nobody: OWN times the WEIGHTS of its WRITTEN ones. */
    private static void costOfNobody() {
        SkyMargins x = Due.withCopies(2);
        due.is("of none", 0, x.cost(-1, 0));
        for (int kind = 1; kind < 4; kind++) {
            x.note(0, 7, 0, -1, kind);
            due.is("none is written", 0, x.cost(-1, 0));
        }
        Due.write(x, 1, 7, 0);
        due.is("of another copy", 0, x.cost(-1, 0));
        Due.write(x, 0, 7, 0);
        due.is("where it is cut, too", 20, x.cost(-1, 0));
        for (int own = 1; own <= 9; own++) {
            x.terms(2, own);
            due.is("own " + own, 10 * own, x.cost(-1, 0));
        }
        Due.use(x, "weight 0");
        due.is("weight 0", 0, x.cost(-1, 0));
        Due.use(x, "weight 1000");
        due.is("weight 100", 900, x.cost(-1, 0));
    }

    /** As dear as can be: 200 notes of weight 100, nine times. */
    private static void costOfAll() {
        SkyMargins x = Edge.withNotes(200);
        x.end(0);
        Due.use(x, "weight 100");
        for (int what = 0; what < 3; what++) {
            x.terms(what, 9);
        }
        int written = 0;
        for (int note = 0; note < 200; note++) {
            written += x.of(note, 0) == 3 && x.of(note, 4) == 0 ? 1 : 0;
        }
        due.is("own", 900 * written, x.cost(-1, 3));
        // All but one at the place where copy 0 is cut, and the one that copy 0 has.
        due.is("added and left", 900 * written, x.cost(0, 3));
        due.is("left and added", 900 * written, x.cost(3, 0));
        x.terms(1, 0);
        due.is("left for nothing", 900 * (written - 1), x.cost(0, 3));
        due.is("left for nothing, turned", 900, x.cost(3, 0));
    }

    /** Those at a PLACE at which the one that has them not is CUT do not count. */
    private static void costWhereCut() {
        int[] places = {0, 30, 59};
        for (int place : places) {
            SkyMargins x = Due.withCopies(2);
            Due.write(x, 0, place, 1);
            Due.write(x, 0, place, 2);
            Due.write(x, 1, place, 3);
            due.is("none is cut", 60 + 10, x.cost(1, 0));
            due.is("none is cut, turned", 30 + 20, x.cost(0, 1));
            x.note(1, place, 0, -1, 1);
            due.is("the exemplar is cut", 10, x.cost(1, 0));
            due.is("the copy is cut", 30, x.cost(0, 1));
            x.note(0, place, 0, -1, 1);
            due.is("both are cut", 0, x.cost(1, 0));
            due.is("both are cut, turned", 0, x.cost(0, 1));
            due.is("from nobody", 40, x.cost(-1, 0));
            Due.write(x, 0, (place + 1) % 60, 1);
            due.is("at the place beside it", 30, x.cost(1, 0));
            due.is("at the place beside it, turned", 10, x.cost(0, 1));
        }
        // The one that has them being cut there matters nothing.
        SkyMargins y = Due.withCopies(2);
        Due.write(y, 0, 5, 1);
        y.note(0, 5, 0, -1, 1);
        due.is("the copy has it", 30, y.cost(1, 0));
        due.is("the exemplar has it", 10, y.cost(0, 1));
    }

    /** tree: 0 without COPIES. */
    private static void treeWithoutCopies() {
        emptyOne.told("tree without copies", 0, x -> x.tree());
        SkyMargins x = Due.withCopies(1);
        Due.write(x, 0, 0, 0);
        due.is("tree of one", 20, x.tree());
        SkyMargins y = new SkyMargins();
        y.image(0);
        y.copy(0, 0);
        Due.write(y, 0, 0, 0);
        due.is("tree", 20, y.tree());
        y.back(0);
        due.is("none again", 0, y.tree());
    }

    private static void treeOfNone() {
        SkyMargins x = Due.withCopies(12);
        due.is("tree of twelve without notes", 0, x.tree());
        for (int copy = 0; copy < 12; copy++) {
            due.is("nobody's", 100, x.whose(copy));
            due.is("not sure", 0, x.sure(copy));
        }
    }

    /** whose: NONE; 100: nobody. */
    private static void whoseNumbers() {
        standing.told("whose", -1, (x, n) -> x.whose(n), MIN, -1, 4, 11, 12, 100, MAX);
        emptyOne.told("whose of none", -1, (x, n) -> x.whose(n), -1, 0);
        twelve.told("whose behind twelve", -1, x -> x.whose(12));
        // 1 by itself and 0 of it: 80 and 10 left; 0 by itself and 1 of it: 60 and 40 added.
        standing.told("another one's", 1, x -> x.whose(0));
        standing.told("nobody's", 100, x -> x.whose(1));
        SkyMargins x = Due.withCopies(12);
        x.terms(1, 9);
        for (int copy = 0; copy < 12; copy++) {
            Due.write(x, copy, 0, 0);
            Due.write(x, copy, 1, copy < 11 ? copy : 10);
        }
        due.is("the twelfth's, of the eleventh", 10, x.whose(11));
        Due.write(x, 10, 2, 0);
        Due.write(x, 10, 3, 0);
        due.is("the eleventh's, of the twelfth", 11, x.whose(10));
    }

    /** The FIRST of them: nobody ahead of all. */
    private static void nobodyAheadOfAll() {
        // Copy 1 has one note: from nobody 20, from copy 0, which has none, 2 times 10 added.
        SkyMargins x = Due.withCopies(2);
        x.terms(0, 2);
        Due.write(x, 1, 0, 0);
        due.is("tree", 20, x.tree());
        due.is("as dear from nobody", 100, x.whose(1));
        due.is("nobody, not sure", 0, x.sure(1));
        x.terms(0, 1);
        due.is("cheaper from copy 0", 0, x.whose(1));
        due.is("sure", 1, x.sure(1));
        due.is("and 0 of nobody", 100, x.whose(0));
        x.terms(0, 3);
        due.is("dearer from copy 0", 100, x.whose(1));
        due.is("nobody, sure", 1, x.sure(1));
    }

    /** The FIRST of them: else the lower number ahead. */
    private static void lowerNumberAhead() {
        SkyMargins x = Due.withCopies(12);
        for (int copy = 0; copy < 12; copy++) {
            Due.write(x, copy, 0, 0);
        }
        due.is("tree of alike ones", 20, x.tree());
        due.is("the first is nobody's", 100, x.whose(0));
        for (int copy = 1; copy < 12; copy++) {
            due.is("the others are the lowest's", 0, x.whose(copy));
            due.is("not sure", 0, x.sure(copy));
        }
        // The lowest may not be the exemplar of the last, so that the next lower one is.
        SkyMargins y = Due.withCopies(4);
        for (int copy = 0; copy < 4; copy++) {
            Due.write(y, copy, 0, 0);
            y.stay(copy, copy == 0 ? 1 : 2, 0, 400);
        }
        y.stay(1, 1, 0, 400);
        due.is("the last's", 1, y.whose(3));
        due.is("the third's", 1, y.whose(2));
        due.is("the second's", 0, y.whose(1));
    }

    /** As a row of exemplars by COPIES: what copy 0 has goes ahead of what copy 1 has, and so on. */
    private static void firstCopyAhead() {
        SkyMargins x = Due.withCopies(2);
        Due.write(x, 0, 0, 0);
        Due.write(x, 1, 0, 0);
        due.is("tree", 20, x.tree());
        due.is("nobody and 0 ahead of 1 and nobody", 100, x.whose(0));
        due.is("1 is of 0", 0, x.whose(1));
        // 2 must go ahead of both; then 0 of 2 and 1 of 0, or 0 of 1 and 1 of 2: 1 is the lower one for 0.
        SkyMargins y = Due.withCopies(3);
        for (int copy = 0; copy < 2; copy++) {
            Due.write(y, copy, 0, 0);
            Due.write(y, copy, 1, 0);
            Due.write(y, copy, 2, 0);
        }
        Due.write(y, 2, 0, 0);
        Due.write(y, 2, 1, 0);
        y.terms(1, 9);
        y.terms(2, 4);
        due.is("2 by itself, one of it with one added, and the other one from that", 80 + 30, y.tree());
        due.is("0 of 1", 1, y.whose(0));
        due.is("1 of 2", 2, y.whose(1));
        due.is("2 of nobody", 100, y.whose(2));
        due.is("0 is not sure", 0, y.sure(0));
        due.is("1 is not sure", 0, y.sure(1));
        due.is("2 is sure", 1, y.sure(2));
    }

    /** None comes of itself, by any steps. */
    private static void noneComesOfItself() {
        for (int many = 2; many <= 12; many++) {
            SkyMargins x = Due.withCopies(many);
            for (int copy = 0; copy < many; copy++) {
                // Only neighbours in a ring met.
                x.stay(copy, copy, 0, 0);
                x.stay(copy, (copy + 1) % many, 0, 0);
                Due.write(x, copy, 0, 0);
            }
            due.is("ring of " + many, 20, x.tree());
            due.is("the first of it", 100, x.whose(0));
            due.is("the second", 0, x.whose(1));
            int steps = 0;
            for (int copy = 0; copy < many; copy++) {
                steps += x.come(copy, 2);
            }
            due.is("all come of the first", many - 1, x.come(0, 0));
            // 1, 2, 3 .. up the one side by the lower numbers; the last is the first's, too.
            due.is("steps", many == 2 ? 3 : 1 + 2 + many * (many - 1) / 2 - 1, steps);
        }
    }

    /** sure: NONE. */
    private static void sureNumbers() {
        standing.told("sure", -1, (x, n) -> x.sure(n), MIN, -1, 4, 11, 12, MAX);
        emptyOne.told("sure of none", -1, (x, n) -> x.sure(n), -1, 0);
        twelve.told("sure behind twelve", -1, x -> x.sure(12));
        twelve.told("sure of twelve", 0, x -> x.sure(11));
    }

    /** An exemplar is SURE, if all BEST ones have it. */
    private static void sureIfAllHaveIt() {
        SkyMargins x = Due.withCopies(1);
        due.is("one alone", 1, x.sure(0));
        x.copy(0, 0);
        due.is("as dear from the other", 0, x.sure(0));
        due.is("the other, too", 0, x.sure(1));
        x.stay(0, 0, 1, 1);
        x.stay(1, 0, 2, 2);
        due.is("who never met", 1, x.sure(0));
        due.is("who never met, turned", 1, x.sure(1));
        // Of three the last is sure, though the first two are not.
        SkyMargins y = Due.withCopies(3);
        Due.write(y, 0, 0, 0);
        Due.write(y, 1, 0, 0);
        Due.write(y, 2, 0, 0);
        Due.write(y, 2, 1, 0);
        y.stay(0, 0, 0, 0);
        y.stay(1, 0, 0, 5);
        y.stay(2, 0, 5, 5);
        y.terms(1, 9);
        due.is("the first's exemplar", 100, y.whose(0));
        due.is("the last's exemplar", 1, y.whose(2));
        due.is("the first", 0, y.sure(0));
        due.is("the second", 0, y.sure(1));
        due.is("the last", 1, y.sure(2));
    }

    /** The cost, the first, and the sure ones by all rows of exemplars there are. */
    private static void allTreesOfFew() {
        Random random = new Random(19);
        for (int round = 0; round < 150; round++) {
            int many = 2 + round % 4;
            SkyMargins x = Due.withCopies(many);
            for (int what = 0; what < 3; what++) {
                x.terms(what, 1 + random.nextInt(3));
            }
            for (int note = 0; note < 4 + random.nextInt(20); note++) {
                boolean isCut = random.nextInt(5) == 0;
                int wording = isCut ? 0 : random.nextInt(2);
                x.note(random.nextInt(many), random.nextInt(4), wording, -1, isCut ? 1 : 0);
            }
            for (int stay = 0; stay < random.nextInt(2 * many); stay++) {
                x.stay(random.nextInt(many), random.nextInt(2), 5, 5);
            }
            allTrees(x, many);
        }
    }

    private static void allTrees(SkyMargins x, int many) {
        int[][] costs = new int[many][many + 1];
        for (int copy = 0; copy < many; copy++) {
            for (int from = 0; from <= many; from++) {
                boolean may = from == 0 || from - 1 != copy && x.may(from - 1, copy) == 1;
                costs[copy][from] = may ? x.cost(from - 1, copy) : -1;
            }
        }
        int rows = 1;
        for (int copy = 0; copy < many; copy++) {
            rows *= many + 1;
        }
        int least = MAX;
        int[] first = null;
        boolean[] sure = new boolean[many];
        for (int row = 0; row < rows; row++) {
            int[] from = new int[many];
            int cost = costOfRow(row, many, costs, from);
            if (cost >= 0 && cost < least) {
                least = cost;
                first = from;
                java.util.Arrays.fill(sure, true);
            } else if (cost == least) {
                for (int copy = 0; copy < many; copy++) {
                    sure[copy] &= from[copy] == first[copy];
                }
            }
        }
        due.is("least cost", least, x.tree());
        for (int copy = 0; copy < many; copy++) {
            due.is("first's exemplar", first[copy] == 0 ? 100 : first[copy] - 1, x.whose(copy));
            due.is("sure", sure[copy] ? 1 : 0, x.sure(copy));
        }
    }

    /** What a row of exemplars costs (the number's highest digit is copy 0's exemplar); -1 if it is no tree. */
    private static int costOfRow(int row, int many, int[][] costs, int[] from) {
        int rest = row;
        int cost = 0;
        for (int copy = many - 1; copy >= 0; copy--) {
            from[copy] = rest % (many + 1);
            rest /= many + 1;
            if (costs[copy][from[copy]] < 0) {
                return -1;
            }
            cost += costs[copy][from[copy]];
        }
        for (int copy = 0; copy < many; copy++) {
            int at = copy + 1;
            for (int step = 0; step < many && at != 0; step++) {
                at = from[at - 1];
            }
            if (at != 0) {
                return -1;
            }
        }
        return cost;
    }

    /** come: NONE. */
    private static void comeNumbers() {
        standing.told("come of, by any steps", -1, (x, n) -> x.come(n, 0), MIN, -1, 4, 11, 12, MAX);
        standing.told("come of, at once", -1, (x, n) -> x.come(n, 1), MIN, -1, 4, MAX);
        standing.told("come of, steps", -1, (x, n) -> x.come(n, 2), MIN, -1, 4, MAX);
        standing.told("come what", -1, (x, n) -> x.come(0, n), MIN, -1, 3, MAX);
        emptyOne.told("come of none", -1, (x, n) -> x.come(0, n), 0, 1, 2);
        SkyMargins x = Due.withCopies(1);
        due.is("none comes of one alone", 0, x.come(0, 0));
        due.is("nor at once", 0, x.come(0, 1));
        due.is("one step from nobody", 1, x.come(0, 2));
    }

    /** come: 1 if nobody is its exemplar; through a chain of twelve, and of one all at once. */
    private static void comeOfTwelve() {
        SkyMargins x = Due.withCopies(12);
        for (int copy = 0; copy < 12; copy++) {
            Due.write(x, copy, 0, 0);
            x.stay(copy, 0, 2 * copy, 2 * copy + 2);
        }
        for (int copy = 0; copy < 12; copy++) {
            due.is("come of " + copy, 11 - copy, x.come(copy, 0));
            due.is("at once of " + copy, copy < 11 ? 1 : 0, x.come(copy, 1));
            due.is("steps of " + copy, copy + 1, x.come(copy, 2));
        }
        SkyMargins y = Due.withCopies(12);
        for (int copy = 0; copy < 12; copy++) {
            Due.write(y, copy, 0, 0);
        }
        due.is("all come of the first", 11, y.come(0, 0));
        due.is("all at once", 11, y.come(0, 1));
        for (int copy = 1; copy < 12; copy++) {
            due.is("two steps", 2, y.come(copy, 2));
            due.is("none comes of it", 0, y.come(copy, 0));
        }
    }

    /** net: NOTHING (-1,000,000). */
    private static void netNumbers() {
        standing.told("net of", NOTHING, (x, n) -> x.net(n, 0), MIN, -1, 4, 11, 12, MAX);
        standing.told("net what", NOTHING, (x, n) -> x.net(3, n), MIN, -1, 4, MAX);
        emptyOne.told("net of none", NOTHING, (x, n) -> x.net(0, n), 0, 3);
        twelve.told("net of the twelfth", 0, x -> x.net(11, 2) < 0 ? 1 : 0);
        twelve.told("net of a thirteenth", NOTHING, x -> x.net(12, 2));
    }

    /** net: NOTHING without two. */
    private static void netWithoutTwo() {
        for (int copies = 1; copies <= 3; copies++) {
            SkyMargins x = Due.withCopies(copies);
            for (int what = 0; what < 4; what++) {
                int told = what == 1 ? 1 : 0;
                due.is("net of " + copies, copies < 3 ? NOTHING : told, x.net(copies - 1, what));
            }
        }
        SkyMargins x = Due.withCopies(4);
        for (int copy = 0; copy < 4; copy++) {
            x.stay(copy, copy, 0, 0);
        }
        due.is("who met none", NOTHING, x.net(3, 0));
        x.stay(3, 0, 0, 0);
        due.is("who met one", NOTHING, x.net(3, 0));
        x.stay(3, 2, 0, 0);
        due.is("who met two", 0, x.net(3, 0));
        due.is("and the other", 2, x.net(3, 1));
        due.is("the others met one", NOTHING, x.net(0, 3));
    }

    /** Of alike ones the lower first one, then the lower other one. */
    private static void netOfAlikeOnes() {
        SkyMargins x = Due.withCopies(12);
        for (int copy = 0; copy < 12; copy++) {
            due.is("first", copy == 0 ? 1 : 0, x.net(copy, 0));
            due.is("other", copy < 2 ? 2 : 1, x.net(copy, 1));
        }
        // The two last ones alone have what the first has.
        Due.write(x, 0, 0, 0);
        Due.write(x, 0, 1, 0);
        Due.write(x, 10, 0, 0);
        Due.write(x, 11, 1, 0);
        due.is("the eleventh", 10, x.net(0, 0));
        due.is("the twelfth", 11, x.net(0, 1));
        due.is("cost", 0, x.net(0, 2));
        // 1 with 4 and 2 with 3 alike: the lower first one, though its other one is not lower.
        SkyMargins y = Due.withCopies(6);
        Due.write(y, 5, 0, 0);
        Due.write(y, 5, 1, 0);
        Due.write(y, 5, 2, 0);
        Due.write(y, 5, 3, 0);
        int[][] has = {{}, {0, 1}, {0, 2}, {1, 3}, {2, 3}};
        for (int copy = 0; copy < 5; copy++) {
            for (int place : has[copy]) {
                Due.write(y, copy, place, 0);
            }
        }
        due.is("the lower first one", 1, y.net(5, 0));
        due.is("its other one", 4, y.net(5, 1));
        due.is("for nothing", 0, y.net(5, 2));
        // 0 with 2 and 0 with 3 alike: the lower other one.
        SkyMargins z = Due.withCopies(4);
        Due.write(z, 1, 0, 0);
        Due.write(z, 2, 0, 0);
        Due.write(z, 3, 0, 0);
        due.is("the lower first", 0, z.net(1, 0));
        due.is("the lower other", 2, z.net(1, 1));
    }

    /** As from one that has all that either has and is CUT where both are. */
    private static void netWhereBothAreCut() {
        SkyMargins x = Due.withCopies(3);
        Due.write(x, 2, 0, 0);
        Due.write(x, 2, 59, 0);
        due.is("neither is cut", 60, x.net(2, 2));
        x.note(0, 0, 0, -1, 1);
        due.is("the first is cut", 60, x.net(2, 2));
        x.note(1, 59, 0, -1, 1);
        due.is("the other elsewhere", 60, x.net(2, 2));
        x.note(1, 0, 0, -1, 1);
        due.is("both at the first place", 30, x.net(2, 2));
        x.note(0, 59, 0, -1, 1);
        due.is("both at the last place", 0, x.net(2, 2));
        Due.write(x, 0, 30, 0);
        Due.write(x, 1, 30, 1);
        due.is("what either has is left out", 20, x.net(2, 2));
        Due.write(x, 1, 30, 0);
        due.is("what both have but once", 20, x.net(2, 2));
        x.note(2, 30, 0, -1, 1);
        due.is("not where the copy is cut", 0, x.net(2, 2));
    }

    /** What it GAINS: the least COST from one that MAY be, or nobody, less that. */
    private static void netGains() {
        SkyMargins x = Due.withCopies(4);
        Due.write(x, 0, 0, 0);
        Due.write(x, 1, 1, 0);
        Due.write(x, 2, 0, 0);
        Due.write(x, 2, 1, 0);
        due.is("from both for nothing", 0, x.net(2, 2));
        due.is("one alone: 30, nobody: 40", 30, x.net(2, 3));
        x.terms(2, 1);
        due.is("one alone: 30, nobody: 20", 20, x.net(2, 3));
        due.is("none of it: by itself 10, by 2 and 3 10", 0, x.net(0, 3));
        due.is("nothing: nobody 0, both 20", -20, x.net(3, 3));
        // One that has all itself is no exemplar, if it never met it.
        Due.write(x, 3, 0, 0);
        Due.write(x, 3, 1, 0);
        x.terms(2, 9);
        due.is("the last alone for nothing", 0, x.net(2, 3));
        x.stay(2, 0, 0, 0);
        x.stay(3, 0, 1, 1);
        due.is("who may not", 30, x.net(2, 3));
    }
}
