/** Promises 26 to 29: how copies agree, families and what joins them. */
public final class FamilyTest {
    private static final Due due = new Due();

    public static void main(String[] args) {
        agreeing();
        families();
        joining();
        joiningNobody();
        joiningWhatStaysTogether();
        joiningByLine();
        nothingThere();
        due.close();
    }

    private static void agreeing() {
        SkyMargins x = Due.withCopies(3);
        for (int place = 0; place < 4; place++) {
            Due.write(x, 0, place, 5);
            Due.write(x, 1, place, place < 3 ? 5 : 6);
        }
        x.note(0, 9, 0, -1, 1);
        x.note(1, 9, 0, -1, 1);
        due.is("three alike", 30, x.agree(0, 1));
        due.is("the other way", 30, x.agree(1, 0));
        due.is("none alike", 0, x.agree(0, 2));
        due.is("itself", -1, x.agree(1, 1));
        due.is("no copy", -1, x.agree(0, 3));
        due.is("below", -1, x.agree(-1, 0));
        Due.use(x, "weight 3+place");
        due.is("by weights", 3 + 4 + 5, x.agree(0, 1));
    }

    private static void families() {
        SkyMargins x = Due.withCopies(5);
        int[][] pairs = {{1, 3}, {3, 4}};
        int place = 0;
        for (int[] pair : pairs) {
            for (int i = 0; i < 2; i++) {
                Due.write(x, pair[0], place, 0);
                Due.write(x, pair[1], place, 0);
                place++;
            }
        }
        due.is("families", 3, x.families());
        int[] want = {0, 1, 2, 1, 1};
        for (int copy = 0; copy < 5; copy++) {
            due.is("family", want[copy], x.family(copy));
        }
        x.terms(3, 21);
        due.is("line beyond", 5, x.families());
        due.is("by itself", 4, x.family(4));
        x.terms(3, 0);
        due.is("line 0", 1, x.families());
        due.is("all together", 0, x.family(4));
        due.is("no copy", -1, x.family(5));
        due.is("below", -1, x.family(-1));
    }

    /** Two copies that agree by 10 at a place of their own. */
    private static void agree(SkyMargins x, int one, int other, int place) {
        Due.write(x, one, place, 0);
        Due.write(x, other, place, 0);
    }

    private static void joining() {
        SkyMargins x = Due.withCopies(5);
        x.terms(3, 10);
        for (int copy = 1; copy < 4; copy++) {
            agree(x, 0, copy, copy);
        }
        due.is("joins three", 2, x.joins(0));
        due.is("joins none", 0, x.joins(1));
        due.is("a family by itself", 0, x.joins(4));
        agree(x, 1, 2, 9);
        due.is("two come together by themselves", 1, x.joins(0));
        due.is("no copy", -1000000, x.joins(5));
        due.is("below", -1000000, x.joins(-1));
    }

    private static void joiningNobody() {
        SkyMargins x = Due.withCopies(12);
        for (int copy = 0; copy < 12; copy++) {
            due.is("all by themselves", 0, x.joins(copy));
        }
        due.is("as many families", 12, x.families());
        x.terms(3, 10);
        agree(x, 1, 2, 0);
        agree(x, 5, 6, 1);
        due.is("the lowest by itself beside families", 0, x.joins(0));
        due.is("one between families by itself", 0, x.joins(4));
        due.is("the highest by itself beside families", 0, x.joins(11));
        due.is("one of two", 0, x.joins(1));
        due.is("the other one of two", 0, x.joins(6));
    }

    private static void joiningWhatStaysTogether() {
        SkyMargins x = Due.withCopies(7);
        x.terms(3, 10);
        agree(x, 0, 1, 0);
        agree(x, 1, 2, 1);
        agree(x, 2, 3, 2);
        agree(x, 3, 0, 3);
        for (int copy = 0; copy < 4; copy++) {
            due.is("a ring stays together without one", 0, x.joins(copy));
        }
        agree(x, 3, 4, 4);
        agree(x, 4, 5, 5);
        due.is("two families of the others", 1, x.joins(4));
        due.is("the ring's end of them", 1, x.joins(3));
        due.is("the last of them", 0, x.joins(5));
        due.is("by itself all the while", 0, x.joins(6));
    }

    private static void joiningByLine() {
        SkyMargins x = Due.withCopies(3);
        agree(x, 0, 1, 0);
        agree(x, 1, 2, 1);
        due.is("none is near", 0, x.joins(1));
        x.terms(3, 10);
        due.is("joins the two", 1, x.joins(1));
        x.terms(3, 0);
        due.is("all are near", 0, x.joins(1));
        SkyMargins alone = Due.withCopies(1);
        alone.terms(3, 0);
        due.is("alone with line 0", 0, alone.joins(0));
    }

    private static void nothingThere() {
        SkyMargins x = new SkyMargins();
        due.is("no families", 0, x.families());
        due.is("no family", -1, x.family(0));
        due.is("no joins", -1000000, x.joins(0));
        x.copy(0, 0);
        due.is("one family", 1, x.families());
        due.is("one alone", 0, x.joins(0));
        due.is("one beyond", -1000000, x.joins(1));
    }
}
