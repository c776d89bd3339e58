/** Promises 36 to 40: how many there were, what a censor struck, late notes, what to look up next. */
public final class ListTest {
    private static final Due due = new Due();

    public static void main(String[] args) {
        lincoln();
        chao();
        censor();
        late();
        next();
        due.close();
    }

    private static void lincoln() {
        SkyMargins x = new SkyMargins();
        due.is("no copies", -1, x.many(0, 1));
        int[] lists = {1, 1, 1, 1, 33, 33, 33, 32, 32};
        for (int list : lists) {
            x.copy(0, list);
        }
        due.is("7 times 5 through 3", 11, x.many(0, 5));
        due.is("the other way", 11, x.many(5, 0));
        due.is("none in both", -1, x.many(0, 1));
        due.is("the same", -1, x.many(0, 0));
        due.is("below", -1, x.many(-1, 0));
        due.is("beyond", -1, x.many(0, 6));
    }

    private static int chaoOf(int... lists) {
        SkyMargins x = new SkyMargins();
        for (int list : lists) {
            x.copy(0, list);
        }
        return x.chao();
    }

    private static void chao() {
        due.is("none", 0, chaoOf());
        due.is("in no list", 0, chaoOf(0, 0));
        due.is("one", 1, chaoOf(1));
        due.is("one in three", 1, chaoOf(7));
        due.is("three in one", 3 + 3, chaoOf(1, 2, 4));
        due.is("cut", 4 + 9 / 2, chaoOf(1, 2, 4, 3));
        due.is("cut again", 5 + 9 / 4, chaoOf(1, 2, 4, 3, 48));
        due.is("only two", 2, chaoOf(3, 5, 0));
    }

    private static void censor(SkyMargins x, int land, int text, int... want) {
        for (int what = 0; what < want.length; what++) {
            due.is("censor " + land + " " + text + " " + what, want[what], x.censor(land, text, what));
        }
    }

    private static void censor() {
        SkyMargins x = new SkyMargins();
        for (int copy = 0; copy < 6; copy++) {
            x.copy(copy == 5 ? 1 : 2, 0);
            x.look(copy, copy == 4 ? 0 : 1);
        }
        int text = Due.text(x, "struck if place<3 and chapter=0");
        int none = Due.text(x, "late");
        int ofAll = Due.text(x, "struck if wording+shared+land+hand+kind+lists+looked=0");
        for (int place = 0; place < 3; place++) {
            x.note(0, place, 0, -1, 2);
            x.note(1, place, 0, -1, place == 1 ? 3 : 2);
            x.note(4, place, 0, -1, 2);
            x.note(5, place, 0, -1, 3);
            x.note(3, place, 0, -1, 1);
            Due.write(x, 3, place, 0);
        }
        x.note(1, 1, 0, -1, 2);
        x.note(2, 0, 0, -1, 3);
        x.note(2, 9, 0, -1, 3);
        x.note(3, 9, 0, -1, 2);
        censor(x, 2, text, 4, 2, 1, 1, 6, 2);
        censor(x, 1, text, 1, 1, 0, 0, 0, 3);
        censor(x, 0, text, 0, 0, 0, 0, 0, 0);
        censor(x, 2, none, 4, 4, 0, 0, 0, 0);
        censor(x, 2, ofAll, 4, 0, 4, 0, 7, 3);
        due.is("land below", -1, x.censor(-1, text, 0));
        due.is("land beyond", -1, x.censor(8, text, 0));
        due.is("no text", -1, x.censor(2, 3, 0));
        due.is("text below", -1, x.censor(2, -1, 0));
        due.is("what below", -1, x.censor(2, text, -1));
        due.is("what beyond", -1, x.censor(2, text, 6));
    }

    private static void late() {
        SkyMargins x = Due.withCopies(2);
        int text = Due.text(x, "late if wording>5;late if kind=2");
        int never = Due.text(x, "late if 1/0=1;struck");
        int always = Due.text(x, "late");
        due.is("no notes", 0, x.late(text, -1));
        Due.write(x, 0, 0, 6);
        Due.write(x, 0, 0, 5);
        Due.write(x, 1, 0, 7);
        x.note(1, 3, 0, -1, 2);
        due.is("of the first", 1, x.late(text, 0));
        due.is("of the second", 2, x.late(text, 1));
        due.is("of all", 3, x.late(text, -1));
        due.is("never", 0, x.late(never, -1));
        due.is("always", 4, x.late(always, -1));
        due.is("no text", -1, x.late(3, -1));
        due.is("text below", -1, x.late(-1, -1));
        due.is("no copy", -1, x.late(text, 2));
        due.is("copy below", -1, x.late(text, -2));
    }

    private static void next() {
        SkyMargins x = Due.withCopies(4);
        due.is("nothing looked at", 0, x.next(0));
        due.is("of none", 0, x.next(1));
        x.stay(0, 1, 10, 20);
        x.stay(1, 1, 20, 30);
        x.stay(2, 1, 10, 20);
        x.stay(3, 1, 30, 40);
        x.look(3, 1);
        due.is("that met 3", 1, x.next(0));
        due.is("just one", 1, x.next(1));
        x.look(1, 1);
        due.is("of alike ones the lowest", 0, x.next(0));
        due.is("just one of two", 1, x.next(1));
        x.stay(2, 1, 40, 40);
        due.is("most", 2, x.next(0));
        due.is("two", 2, x.next(1));
        due.is("what 2", -1, x.next(2));
        due.is("what -1", -1, x.next(-1));
        x.look(0, 1);
        x.look(2, 1);
        due.is("all looked at", -1, x.next(0));
        due.is("all looked at, many", -1, x.next(1));
    }
}
