/** Promises 19 to 25: who may have copied whom, what it costs, and the trees. */
public final class TreeTest {
    private static final Due due = new Due();

    public static void main(String[] args) {
        meetings();
        costs();
        costsWhereCut();
        costsByTerms();
        firstOfTheBest();
        sureOnes();
        onlyWhereTheyMet();
        rings();
        comesOf();
        nothingThere();
        nets();
        netsWhereCut();
        netsTied();
        fullRoom();
        due.close();
    }

    private static void meetings() {
        SkyMargins x = Due.withCopies(5);
        x.stay(0, 5, 100, 120);
        x.stay(1, 5, 120, 130);
        x.stay(2, 6, 100, 120);
        x.stay(2, 5, 131, 140);
        x.stay(4, 5, 0, 99);
        due.is("one year in common", 1, x.may(0, 1));
        due.is("and the other way", 1, x.may(1, 0));
        due.is("other town, other years", 0, x.may(0, 2));
        due.is("the year behind", 0, x.may(1, 2));
        due.is("the year ahead", 0, x.may(4, 0));
        due.is("without stays", 1, x.may(3, 0));
        due.is("one without stays", 1, x.may(2, 3));
        due.is("itself", -1, x.may(3, 3));
        due.is("no copy", -1, x.may(0, 5));
        due.is("no exemplar", -1, x.may(5, 0));
        due.is("nobody", -1, x.may(-1, 0));
        x.stay(4, 6, 90, 100);
        due.is("in another town", 1, x.may(4, 2));
    }

    private static void costs() {
        SkyMargins x = Due.withCopies(2);
        Due.write(x, 0, 1, 1);
        Due.write(x, 0, 2, 1);
        Due.write(x, 0, 2, 2);
        Due.write(x, 1, 1, 1);
        Due.write(x, 1, 2, 3);
        x.note(1, 2, 0, -1, 2);
        due.is("1 from 0", 30 + 20, x.cost(0, 1));
        due.is("0 from 1", 60 + 10, x.cost(1, 0));
        due.is("0 from nobody", 60, x.cost(-1, 0));
        due.is("1 from nobody", 40, x.cost(-1, 1));
        due.is("itself", -1, x.cost(1, 1));
        due.is("no copy", -1, x.cost(0, 2));
        due.is("no exemplar", -1, x.cost(2, 0));
        due.is("-2", -1, x.cost(-2, 0));
        due.is("nobody, no copy", -1, x.cost(-1, 2));
        x.stay(0, 1, 1, 1);
        x.stay(1, 2, 1, 1);
        due.is("also where it may not be", 50, x.cost(0, 1));
    }

    private static void costsWhereCut() {
        SkyMargins x = Due.withCopies(2);
        Due.write(x, 0, 1, 1);
        Due.write(x, 0, 2, 2);
        Due.write(x, 1, 3, 3);
        x.note(1, 1, 0, -1, 1);
        due.is("what the copy lost", 30 + 10, x.cost(0, 1));
        due.is("what the exemplar lost", 30 + 10, x.cost(1, 0));
        x.note(0, 1, 0, -1, 1);
        due.is("cut where it has it", 40, x.cost(0, 1));
        x.note(0, 3, 0, -1, 1);
        due.is("added where the exemplar is cut", 10, x.cost(0, 1));
        x.note(1, 2, 0, -1, 3);
        due.is("strokes are no cuts", 10, x.cost(0, 1));
        due.is("nobody", 40, x.cost(-1, 0));
    }

    private static void costsByTerms() {
        SkyMargins x = Due.withCopies(2);
        Due.write(x, 0, 1, 1);
        Due.write(x, 1, 2, 2);
        Due.write(x, 1, 2, 3);
        x.terms(0, 5);
        x.terms(1, 7);
        x.terms(2, 9);
        due.is("added and left", 2 * 50 + 70, x.cost(0, 1));
        due.is("left and added", 50 + 2 * 70, x.cost(1, 0));
        due.is("own", 180, x.cost(-1, 1));
        due.is("tree", 90 + 170, x.tree());
        Due.use(x, "weight 4 if place=1");
        due.is("by weights", 100 + 28, x.cost(0, 1));
        x.use(-1);
        x.terms(1, 0);
        due.is("left for nothing", 50, x.cost(1, 0));
    }

    private static void firstOfTheBest() {
        SkyMargins x = Due.withCopies(3);
        for (int copy = 0; copy < 3; copy++) {
            Due.write(x, copy, 1, 1);
        }
        due.is("tree", 20, x.tree());
        due.is("0 is nobody's", 100, x.whose(0));
        due.is("1 is of 0", 0, x.whose(1));
        due.is("2 is of 0", 0, x.whose(2));
        for (int copy = 0; copy < 3; copy++) {
            due.is("not sure", 0, x.sure(copy));
        }
        Due.use(x, "weight 0");
        due.is("for nothing", 0, x.tree());
        due.is("nobody ahead of all", 100, x.whose(2));
        due.is("nobody is not sure", 0, x.sure(2));
    }

    private static void sureOnes() {
        SkyMargins x = Due.withCopies(2);
        Due.write(x, 0, 0, 0);
        Due.write(x, 1, 0, 0);
        Due.write(x, 1, 1, 0);
        due.is("two best ones", 50, x.tree());
        due.is("the first", 100, x.whose(0));
        due.is("the other's", 0, x.whose(1));
        due.is("not sure", 0, x.sure(1));
        x.terms(1, 5);
        due.is("one best", 50, x.tree());
        due.is("sure", 1, x.sure(0));
        due.is("sure too", 1, x.sure(1));
        x.terms(1, 0);
        due.is("another best", 40, x.tree());
        due.is("turned", 1, x.whose(0));
        due.is("turned, nobody", 100, x.whose(1));
        due.is("turned, sure", 1, x.sure(0));
    }

    private static void onlyWhereTheyMet() {
        SkyMargins x = Due.withCopies(2);
        Due.write(x, 0, 0, 0);
        Due.write(x, 1, 0, 0);
        due.is("tree", 20, x.tree());
        x.stay(0, 1, 5, 6);
        due.is("one stayed", 20, x.tree());
        x.stay(1, 1, 7, 8);
        due.is("never met", 40, x.tree());
        due.is("by itself", 100, x.whose(1));
        due.is("there is no other", 1, x.sure(1));
        due.is("nor here", 1, x.sure(0));
    }

    /** Three alike, whom nobody would have cheaply: rings must be broken at the best place. */
    private static void rings() {
        SkyMargins x = Due.withCopies(4);
        for (int copy = 0; copy < 3; copy++) {
            for (int place = 0; place < 5; place++) {
                Due.write(x, copy, place, 0);
            }
        }
        Due.write(x, 1, 10, 1);
        Due.write(x, 3, 0, 0);
        Due.write(x, 3, 20, 0);
        // 0: 100; 1 from 0: 30; 2 from 0: 0; 3 by itself 40, from 0: 30 + 40.
        due.is("tree", 170, x.tree());
        due.is("0", 100, x.whose(0));
        due.is("1", 0, x.whose(1));
        due.is("2", 0, x.whose(2));
        due.is("3", 100, x.whose(3));
        due.is("3 sure", 1, x.sure(3));
        x.terms(2, 9);
        // 3 by itself: 180, then 0 from it: 120 + 10; by itself 0: 450, then 3 from it: 70.
        due.is("dear ones", 180 + 130 + 30 + 0, x.tree());
        due.is("0 of 2, which is ahead of 3", 2, x.whose(0));
        due.is("2 of 3", 3, x.whose(2));
        due.is("3 of nobody", 100, x.whose(3));
        due.is("3 is sure", 1, x.sure(3));
        due.is("0 is not", 0, x.sure(0));
    }

    private static void comesOf() {
        SkyMargins x = Due.withCopies(4);
        // A chain 0, 1, 2 where only neighbours met, and 3 by itself.
        x.stay(0, 1, 0, 10);
        x.stay(1, 1, 10, 20);
        x.stay(2, 1, 20, 30);
        x.stay(3, 2, 0, 400);
        for (int copy = 0; copy < 4; copy++) {
            Due.write(x, copy, 1, 1);
        }
        int[][] want = {{2, 1, 1}, {1, 1, 2}, {0, 0, 3}, {0, 0, 1}};
        for (int copy = 0; copy < 4; copy++) {
            for (int what = 0; what < 3; what++) {
                due.is("come " + copy + " " + what, want[copy][what], x.come(copy, what));
            }
        }
        due.is("come what 3", -1, x.come(0, 3));
        due.is("come what -1", -1, x.come(0, -1));
        due.is("come no copy", -1, x.come(4, 0));
        due.is("come below", -1, x.come(-1, 0));
    }

    private static void nothingThere() {
        SkyMargins x = new SkyMargins();
        due.is("tree", 0, x.tree());
        due.is("whose", -1, x.whose(0));
        due.is("sure", -1, x.sure(0));
        due.is("sure below", -1, x.sure(-1));
        due.is("whose below", -1, x.whose(-1));
        x.copy(0, 0);
        due.is("tree of one", 0, x.tree());
        due.is("whose is one", 100, x.whose(0));
        due.is("sure is one", 1, x.sure(0));
        due.is("whose beyond", -1, x.whose(1));
    }

    private static void net(SkyMargins x, int copy, int one, int other, int cost, int gains) {
        due.is("net one", one, x.net(copy, 0));
        due.is("net other", other, x.net(copy, 1));
        due.is("net cost", cost, x.net(copy, 2));
        due.is("net gains", gains, x.net(copy, 3));
    }

    private static void nets() {
        SkyMargins x = Due.withCopies(4);
        for (int place = 0; place < 4; place++) {
            Due.write(x, 0, place, 0);
            Due.write(x, place < 2 ? 1 : 3, place, 0);
        }
        Due.write(x, 3, 9, 0);
        Due.write(x, 2, 20, 0);
        net(x, 0, 1, 3, 10, 60 - 10);
        net(x, 2, 0, 1, 30 + 40, 20 - 70);
        due.is("net what", -1000000, x.net(0, 4));
        due.is("net what below", -1000000, x.net(0, -1));
        due.is("net no copy", -1000000, x.net(4, 0));
        due.is("net below", -1000000, x.net(-1, 0));
        x.stay(0, 1, 1, 1);
        x.stay(3, 2, 1, 1);
        net(x, 0, 1, 2, 60 + 10, 60 - 70);
        x.stay(1, 2, 1, 1);
        for (int what = 0; what < 4; what++) {
            due.is("net without two", -1000000, x.net(0, what));
        }
    }

    private static void netsWhereCut() {
        SkyMargins x = Due.withCopies(3);
        Due.write(x, 0, 1, 1);
        Due.write(x, 0, 2, 1);
        Due.write(x, 1, 3, 1);
        Due.write(x, 2, 3, 1);
        x.note(1, 1, 0, -1, 1);
        x.note(1, 2, 0, -1, 1);
        x.note(2, 2, 0, -1, 1);
        net(x, 0, 1, 2, 30 + 10, 10 - 40);
        x.note(2, 1, 0, -1, 1);
        net(x, 0, 1, 2, 10, 0);
        x.note(0, 3, 0, -1, 1);
        net(x, 0, 1, 2, 0, 0);
    }

    private static void netsTied() {
        SkyMargins x = Due.withCopies(5);
        net(x, 2, 0, 1, 0, 0);
        net(x, 0, 1, 2, 0, 0);
        Due.write(x, 0, 1, 1);
        Due.write(x, 2, 1, 1);
        Due.write(x, 4, 1, 1);
        net(x, 4, 0, 1, 0, 0);
        net(x, 0, 1, 2, 0, 0);
        net(x, 3, 0, 1, 10, -10);
    }

    /** Twelve copies, and as dear as can be: the costs of all trees must be held. */
    private static void fullRoom() {
        SkyMargins x = Due.withCopies(12);
        Due.use(x, "weight 100");
        x.terms(0, 9);
        x.terms(1, 9);
        x.terms(2, 9);
        for (int note = 0; note < 200; note++) {
            Due.write(x, note % 12, note / 12, note % 12);
        }
        due.is("tree", 180000, x.tree());
        for (int copy = 0; copy < 12; copy++) {
            due.is("whose", 100, x.whose(copy));
            due.is("sure", 1, x.sure(copy));
            due.is("steps", 1, x.come(copy, 2));
        }
        SkyMargins y = Due.withCopies(12);
        Due.use(y, "weight 100");
        y.terms(0, 9);
        y.terms(1, 9);
        y.terms(2, 9);
        for (int note = 0; note < 200; note++) {
            Due.write(y, 11, note % 60, note / 60);
        }
        due.is("one has all", 180000, y.tree());
        due.is("cost", 180000, y.cost(11, 0));
        due.is("from nobody or any other", 0, y.sure(11));
    }
}
