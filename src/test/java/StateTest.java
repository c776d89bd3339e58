/** Promises 1 to 10, 45 and 46: what stands, and what is refused. */
public final class StateTest {
    private static final Due due = new Due();

    public static void main(String[] args) {
        newObject();
        copies();
        looks();
        stays();
        hands();
        forms();
        samples();
        notes();
        noteKinds();
        notesOf();
        terms();
        counts();
        statusAndRefusals();
        due.close();
    }

    private static void newObject() {
        SkyMargins x = new SkyMargins();
        for (int what = 0; what <= 12; what++) {
            due.is("new count " + what, 0, x.count(what));
        }
        due.is("new used text", -1, x.count(13));
        due.is("count below", -1, x.count(-1));
        due.is("count beyond", -1, x.count(14));
        due.is("new status", 0, x.status());
        due.is("new trimmed", 0, x.trimmed());
        due.is("new fault", -1, x.fault());
        due.is("new tree", 0, x.tree());
        due.is("new families", 0, x.families());
        due.is("new chao", 0, x.chao());
        due.is("new next", -1, x.next(0));
        due.is("new next many", -1, x.next(1));
        due.is("new written", -1, x.written(0));
        due.is("new run", 0, x.run(0));
        due.is("NONE", -1, SkyMargins.NONE);
    }

    private static void copies() {
        SkyMargins x = new SkyMargins();
        int[][] bad = {{-1, 0}, {8, 0}, {0, -1}, {0, 64}};
        for (int[] b : bad) {
            due.is("copy " + b[0] + " " + b[1], -1, x.copy(b[0], b[1]));
        }
        for (int copy = 0; copy < 12; copy++) {
            due.is("copy", copy, x.copy(copy % 8, 63 - copy));
        }
        due.is("copy 13", -5, x.copy(7, 63));
        due.is("-1 ahead of -5", -1, x.copy(8, 0));
        due.is("copies", 12, x.count(0));
    }

    private static void looks() {
        SkyMargins x = Due.withCopies(1);
        due.is("look bad", -1, x.look(0, 2));
        due.is("look below", -1, x.look(0, -1));
        due.is("-1 ahead of -2", -1, x.look(1, 2));
        due.is("look no copy", -2, x.look(1, 1));
        due.is("look copy -1", -2, x.look(-1, 1));
        due.is("look copy 99", -2, x.look(99, 1));
        due.is("look 1", 0, x.look(0, 1));
        due.is("looked at", 1, x.count(5));
        due.is("look 0", 1, x.look(0, 0));
        due.is("look again", 0, x.look(0, 0));
        due.is("looked at none", 0, x.count(5));
    }

    private static void stays() {
        SkyMargins x = Due.withCopies(1);
        int[][] bad = {{-1, 0, 0}, {32, 0, 0}, {0, -1, 0}, {0, 0, 401}, {0, 401, 401}, {0, 5, 4}};
        for (int[] b : bad) {
            due.is("stay bad", -1, x.stay(0, b[0], b[1], b[2]));
        }
        due.is("-1 ahead of -2", -1, x.stay(3, 0, 5, 4));
        due.is("stay no copy", -2, x.stay(1, 0, 0, 400));
        due.is("stay below", -2, x.stay(-1, 0, 0, 400));
        for (int stay = 1; stay <= 40; stay++) {
            due.is("stay", stay, x.stay(0, stay % 32, 0, 400));
        }
        due.is("stay 41", -5, x.stay(0, 31, 7, 7));
        due.is("-2 ahead of -5", -2, x.stay(1, 31, 7, 7));
        due.is("stays", 40, x.count(1));
    }

    private static void hands() {
        SkyMargins x = new SkyMargins();
        due.is("hand below", -1, x.hand(-1, 5));
        due.is("hand beyond", -1, x.hand(0, 401));
        due.is("hand back", -1, x.hand(6, 5));
        for (int hand = 0; hand < 12; hand++) {
            due.is("hand", hand, x.hand(hand, hand));
        }
        due.is("hand 13", -5, x.hand(0, 400));
        due.is("-1 ahead of -5", -1, x.hand(1, 0));
        due.is("hands", 12, x.count(2));
    }

    private static void forms() {
        SkyMargins x = new SkyMargins();
        x.hand(0, 400);
        due.is("form low", -1, x.form(0, -1, 1));
        due.is("form high", -1, x.form(0, 6, 1));
        due.is("many low", -1, x.form(0, 0, -1));
        due.is("many high", -1, x.form(0, 0, 100));
        due.is("-1 ahead of -2", -1, x.form(1, 0, 100));
        due.is("no hand", -2, x.form(1, 0, 99));
        due.is("hand below", -2, x.form(-1, 0, 99));
        due.is("form 5", 0, x.form(0, 5, 99));
        due.is("form 5 again", 99, x.form(0, 5, 1));
        due.is("form 4 by itself", 0, x.form(0, 4, 1));
    }

    private static void samples() {
        SkyMargins x = new SkyMargins();
        int[][] bad = {{-1, 0, 0}, {8, 0, 0}, {0, -1, 0}, {0, 6, 0}, {0, 0, -1}, {0, 0, 100}};
        for (int[] b : bad) {
            due.is("sample bad", -1, x.sample(b[0], b[1], b[2]));
        }
        due.is("sample", 0, x.sample(7, 5, 99));
        due.is("sample again", 99, x.sample(7, 5, 3));
        due.is("sample other", 0, x.sample(6, 5, 3));
    }

    private static void notes() {
        SkyMargins x = Due.withCopies(2);
        x.hand(0, 400);
        int[][] bad = {{-1, 0, 0}, {60, 0, 0}, {0, -1, 0}, {0, 100, 0}, {0, 0, -1}, {0, 0, 4},
            {0, 1, 1}, {0, 1, 2}, {0, 1, 3}};
        for (int[] b : bad) {
            due.is("note bad", -1, x.note(0, b[0], b[1], 0, b[2]));
        }
        due.is("-1 ahead of -2", -1, x.note(5, 60, 0, 0, 0));
        due.is("no copy", -2, x.note(2, 0, 0, 0, 0));
        due.is("copy below", -2, x.note(-1, 0, 0, 0, 0));
        due.is("no hand", -2, x.note(0, 0, 0, 1, 0));
        due.is("hand below", -2, x.note(0, 0, 0, -2, 0));
        due.is("note", 0, x.note(0, 0, 0, 0, 0));
        due.is("has it", -3, x.note(0, 0, 0, -1, 0));
        due.is("-2 ahead of -3", -2, x.note(0, 0, 0, 7, 0));
        for (int note = 1; note < 200; note++) {
            due.is("note", note, Due.write(x, note % 2, note % 60, note / 60));
        }
        due.is("-3 ahead of -5", -3, Due.write(x, 0, 0, 0));
        due.is("no room", -5, Due.write(x, 0, 59, 99));
        due.is("notes", 200, x.count(3));
        due.is("row without room", 0, rowOf(x, 0, 59, 99, 255));
        due.is("trimmed without room", 1, x.trimmed());
    }

    private static int rowOf(SkyMargins x, int copy, int... bytes) {
        Due.feed(x, bytes);
        return x.row(copy);
    }

    private static void noteKinds() {
        SkyMargins x = Due.withCopies(2);
        for (int kind = 0; kind < 4; kind++) {
            due.is("kind", kind, x.note(0, 9, 0, -1, kind));
            due.is("kind again", -3, x.note(0, 9, 0, -1, kind));
        }
        due.is("other wording", 4, x.note(0, 9, 1, -1, 0));
        due.is("other copy", 5, x.note(1, 9, 0, -1, 1));
        due.is("other place", 6, x.note(0, 8, 0, -1, 1));
        due.is("written", 2, x.count(6));
    }

    private static void notesOf() {
        SkyMargins x = Due.withCopies(3);
        x.hand(0, 400);
        x.note(1, 59, 99, 0, 0);
        x.note(2, 59, 99, -1, 0);
        x.note(2, 59, 0, 0, 3);
        int[] first = {1, 59, 99, 0, 0, 2};
        int[] second = {2, 59, 99, -1, 0, 2};
        int[] third = {2, 59, 0, 0, 3, 0};
        for (int what = 0; what < 6; what++) {
            due.is("of 0 " + what, first[what], x.of(0, what));
            due.is("of 1 " + what, second[what], x.of(1, what));
            due.is("of 2 " + what, third[what], x.of(2, what));
        }
        due.is("of 3", -2, x.of(3, 0));
        due.is("of -1", -2, x.of(-1, 0));
        due.is("of what -1", -2, x.of(0, -1));
        due.is("of what 6", -2, x.of(0, 6));
    }

    private static void terms() {
        SkyMargins x = new SkyMargins();
        int[] first = {3, 1, 2, 20};
        int[] least = {1, 0, 1, 0};
        int[] most = {9, 9, 9, 1000};
        for (int what = 0; what < 4; what++) {
            due.is("term low", -1, x.terms(what, least[what] - 1));
            due.is("term high", -1, x.terms(what, most[what] + 1));
            due.is("term", first[what], x.terms(what, least[what]));
            due.is("term again", least[what], x.terms(what, most[what]));
            due.is("term kept", most[what], x.terms(what, first[what]));
        }
        due.is("term -1", -1, x.terms(-1, 3));
        due.is("term 4", -1, x.terms(4, 3));
    }

    private static void counts() {
        SkyMargins x = Due.withCopies(2);
        x.stay(0, 0, 0, 0);
        x.hand(0, 0);
        x.hand(0, 0);
        x.hand(0, 0);
        x.note(0, 0, 0, -1, 0);
        x.note(0, 0, 0, -1, 1);
        x.look(1, 1);
        Due.text(x, "late");
        Due.text(x, "struck");
        x.use(1);
        Due.feed(x, "abc");
        int[] want = {2, 1, 3, 2, 2, 1, 1, 3, 0, 0, 0, 0, 0, 1};
        for (int what = 0; what < want.length; what++) {
            due.is("count " + what, want[what], x.count(what));
        }
    }

    private static void statusAndRefusals() {
        SkyMargins x = new SkyMargins();
        x.copy(-1, 0);
        due.is("status -1", -1, x.status());
        x.tree();
        x.feed(0, 0, 0, 0, 0);
        x.end(99);
        due.is("status stays", -1, x.status());
        x.look(0, 0);
        due.is("status -2", -2, x.status());
        x.use(0);
        due.is("status -3", -3, x.status());
        x.use(-2);
        due.is("use -2", -3, x.status());
        x.text();
        due.is("status -6", -6, x.status());
        x.image(2);
        due.is("image 2", -1, x.status());
        x.back(0);
        due.is("back 0", -2, x.status());
        x.back(-1);
        due.is("back -1", -1, x.status());
        x.run(-1);
        due.is("run -1", -1, x.status());
        x.copy(0, 0);
        due.is("status 0", 0, x.status());
        x.row(0);
        due.is("row of nothing", -6, x.status());
        x.image(0);
        due.is("image 0", 0, x.status());
        for (int hand = 0; hand < 13; hand++) {
            x.hand(0, 0);
        }
        due.is("status -5", -5, x.status());
        int[] want = {4, 2, 2, 1, 2};
        for (int i = 0; i < 5; i++) {
            due.is("refused " + i, want[i], x.count(8 + i));
        }
        x.back(0);
        due.is("images do not keep refusals", 1, x.count(11));
        due.is("hands are back", 0, x.count(2));
    }
}
