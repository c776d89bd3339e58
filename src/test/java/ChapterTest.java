/** Promises 34 and 35: how far each was read. */
public final class ChapterTest {
    private static final Due due = new Due();

    public static void main(String[] args) {
        stops();
        withoutText();
        certain();
        impossible();
        askedOfTheCopy();
        wrongInputs();
        due.close();
    }

    private static void stops() {
        SkyMargins x = Due.withCopies(2);
        due.is("none", 0, x.stops(0, 0));
        due.is("no last", -1, x.stops(0, 1));
        x.note(0, 59, 0, -1, 1);
        x.note(0, 58, 0, -1, 2);
        due.is("others are not written", 0, x.stops(0, 0));
        Due.write(x, 0, 4, 0);
        Due.write(x, 0, 0, 0);
        Due.write(x, 0, 5, 0);
        due.is("two chapters", 2, x.stops(0, 0));
        due.is("the last", 1, x.stops(0, 1));
        Due.write(x, 0, 55, 0);
        due.is("three chapters", 3, x.stops(0, 0));
        due.is("the very last", 11, x.stops(0, 1));
        due.is("what 2", -1, x.stops(0, 2));
        due.is("what -1", -1, x.stops(0, -1));
        due.is("no copy", -1, x.stops(2, 0));
        due.is("below", -1, x.stops(-1, 0));
    }

    private static void withoutText() {
        SkyMargins x = Due.withCopies(1);
        // Read just k chapters and nothing written: 1/4 of it for each more, twice so for the last.
        due.is("one at least", 1000000, x.read(0, 1));
        due.is("two at least", 250000, x.read(0, 2));
        due.is("twelve", 0, x.read(0, 12));
        Due.write(x, 0, 50, 0);
        due.is("eleven for sure", 1000000, x.read(0, 11));
        // 1/2 through 1 and 1/4 through 1/2 more.
        due.is("twelve then", 333333, x.read(0, 12));
        Due.write(x, 0, 55, 0);
        due.is("twelve for sure", 1000000, x.read(0, 12));
    }

    private static void certain() {
        SkyMargins x = Due.withCopies(1);
        Due.use(x, "reads 100;notes 0");
        due.is("all read", 1000000, x.read(0, 12));
        Due.use(x, "reads 0;notes 0");
        due.is("one read", 1000000, x.read(0, 1));
        due.is("no more", 0, x.read(0, 2));
        Due.use(x, "reads 10;notes 0");
        due.is("a tenth", 100000, x.read(0, 2));
        due.is("a hundredth", 10000, x.read(0, 3));
        due.is("a millionth", 1, x.read(0, 7));
        due.is("less", 0, x.read(0, 8));
        Due.use(x, "reads 90;notes 0");
        int[] atLeast = {1000000, 900000, 810000, 729000, 656100, 590490, 531441, 478296, 430467, 387420, 348678, 313810};
        for (int chapters = 1; chapters <= 12; chapters++) {
            due.is("nine tenths", atLeast[chapters - 1], x.read(0, chapters));
        }
        Due.use(x, "reads 1000;notes 0-5");
        due.is("nearest", 1000000, x.read(0, 12));
    }

    private static void impossible() {
        SkyMargins x = Due.withCopies(1);
        Due.use(x, "notes 0");
        Due.write(x, 0, 0, 0);
        due.is("written where nothing is", -1, x.read(0, 1));
        Due.use(x, "reads 0");
        due.is("can be", 1000000, x.read(0, 1));
        Due.write(x, 0, 5, 0);
        due.is("behind the end", -1, x.read(0, 1));
        Due.use(x, "notes 100");
        due.is("two written, two read", 0, x.read(0, 3));
        Due.write(x, 0, 20, 0);
        due.is("read without writing", -1, x.read(0, 1));
    }

    private static void askedOfTheCopy() {
        SkyMargins x = new SkyMargins();
        x.copy(3, 5);
        x.copy(0, 0);
        Due.use(x, "reads 100 if chapter<3;reads 0 if chapter=3;notes 25;reads land*25 if chapter=2;notes 0 if "
            + "place+wording+shared+hand+kind>0");
        // Three chapters read at 75 of a hundred, each with nothing written at 75 of a hundred.
        due.is("land 3", 692307, x.read(0, 3));
        due.is("land 0", 0, x.read(1, 3));
        due.is("the next chapter", 1000000, x.read(1, 2));
        due.is("four", 0, x.read(0, 4));
    }

    private static void wrongInputs() {
        SkyMargins x = Due.withCopies(1);
        due.is("chapters 0", -1, x.read(0, 0));
        due.is("chapters 13", -1, x.read(0, 13));
        due.is("no copy", -1, x.read(1, 1));
        due.is("below", -1, x.read(-1, 1));
    }
}
