/** Promises 15 to 18, and how texts are read and asked (Terms II). */
public final class TextTest {
    private static final Due due = new Due();

    public static void main(String[] args) {
        textsRefused();
        textsRead();
        faults();
        limits();
        use();
        weights();
        sums();
        tests();
        broken();
        lastThatHolds();
        whatIsAsked();
        due.close();
    }

    private static void textsRefused() {
        SkyMargins x = new SkyMargins();
        due.is("no bytes", -6, x.text());
        due.is("fault at 0", 0, x.fault());
        due.is("blanks", -6, Due.text(x, "    "));
        due.is("fault at the end", 4, x.fault());
        due.is("tape is empty", 0, x.count(7));
        for (int text = 0; text < 8; text++) {
            due.is("text", text, Due.text(x, "late"));
            due.is("no fault", -1, x.fault());
        }
        Due.text(x, "late late");
        due.is("no room ahead of reading", -1, x.fault());
        due.is("no room", -5, x.status());
        due.is("tape is empty then", 0, x.count(7));
        due.is("no room without bytes", -5, x.text());
    }

    private static void textsRead() {
        String[] good = {
            "late", "struck", "late;struck", "weight 1", "weight1", "reads[1]", "  weight  1  ",
            "notes place+chapter-wording*shared/land", "copies hand;adds kind", "weight lists+looked",
            "late if 1<2", "late if not not 1=2", "late if(1<2)", "late if((1<2)or(1>2)and not(1=2))",
            "weight 1000 if [1+2]*[3]=9", "weight 0001000", "late if 1<2 or 2<3 and 3<4 or not 1=1",
            "weight [[[[[[[[1]]]]]]]]", "late if ((((((((1=1))))))))", "late if ((((1=[[[[1]]]]))))",
            "late;late;late;late;late;late;late;late;late;late;late;late",
        };
        for (String text : good) {
            SkyMargins x = new SkyMargins();
            due.is(text, 0, Due.text(x, text));
            due.is("fault of " + text, -1, x.fault());
        }
    }

    private static void fault(String text, int place) {
        SkyMargins x = new SkyMargins();
        due.is(text, -6, Due.text(x, text));
        due.is("fault of " + text, place, x.fault());
        due.is("texts", 0, x.count(4));
    }

    private static void faults() {
        fault("weight", 6);
        fault("weight  ", 8);
        fault("weights 1", 0);
        fault("Weight 1", 0);
        fault("late 1", 5);
        fault("late;", 5);
        fault(";late", 0);
        fault("late;;late", 5);
        fault("weight 1001", 7);
        fault("weight 99999999999999999999", 7);
        fault("weight -1", 7);
        fault("weight 1 2", 9);
        fault("weight 1 place", 9);
        fault("weight (1)", 7);
        fault("weight [1", 9);
        fault("weight [1)", 9);
        fault("weight []", 8);
        fault("weight 1+", 9);
        fault("weight 1*/2", 9);
        fault("late if", 7);
        fault("late if 1", 9);
        fault("late if 1;", 9);
        fault("late if 1<", 10);
        fault("late if 1<=2", 10);
        fault("late if 1<2<3", 11);
        fault("late if (1<2", 12);
        fault("late if (1)", 10);
        fault("late if (1<2)<3", 13);
        fault("late if [1<2]", 10);
        fault("late if not", 11);
        fault("late if 1<2 or", 14);
        fault("late if 1<2 and or", 16);
        fault("late if 1<2 if 1<2", 12);
        fault("late if ()", 9);
        fault("late ifplace<2", 5);
        fault("late\tif 1<2", 4);
        fault("weight place2", 12);
        fault("weight 2place", 8);
        fault("weight \u00e9", 7);
        fault("weight weight", 7);
        fault("weight placez", 7);
        fault("weight aplace", 7);
        fault("late if plac", 8);
    }

    private static String many(String part, int times) {
        StringBuilder all = new StringBuilder();
        for (int i = 0; i < times; i++) {
            all.append(part);
        }
        return all.toString();
    }

    private static void limits() {
        SkyMargins x = new SkyMargins();
        due.is("12 clauses", 0, Due.text(x, many("late;", 11) + "late"));
        fault(many("late;", 12) + "late", 60);
        fault(many("late;", 12), 60);
        fault(many("late;", 12) + "  ?", 62);
        due.is("50 parts", 1, Due.text(x, "weight 1" + many("+1", 49)));
        fault("weight 1" + many("+1", 50), 7 + 100);
        fault("weight 1" + many("+place", 50), 8 + 49 * 6 + 1);
        due.is("50 parts in all", 2, Due.text(x, "weight 1" + many("+1", 24) + ";reads 1" + many("+1", 24)));
        fault("weight 1" + many("+1", 24) + ";reads 1" + many("+1", 24) + ";adds 1", 56 + 1 + 6 + 49 + 6);
        due.is("8 brackets", 3, Due.text(x, "weight " + many("[", 8) + "1" + many("]", 8)));
        fault("weight " + many("[", 9) + "1" + many("]", 9), 15);
        fault("late if " + many("(", 9) + "1=1" + many(")", 9), 16);
        fault("late if " + many("(", 5) + "1=" + many("[", 4) + "1" + many("]", 4) + many(")", 5), 18);
        due.is("brackets behind one another", 4, Due.text(x, "weight [1]" + many("+[1]", 20)));
        due.is("many nots", 5, Due.text(x, "late if " + many("not ", 90) + "1=1"));
    }

    private static void use() {
        SkyMargins x = new SkyMargins();
        due.is("use none of none", -1, x.use(-1));
        due.is("use 0 of none", -3, x.use(0));
        Due.text(x, "late");
        Due.text(x, "late");
        due.is("use 1", -1, x.use(1));
        due.is("use 2", -3, x.use(2));
        due.is("use -2", -3, x.use(-2));
        due.is("still 1", 1, x.count(13));
        due.is("use 0", 1, x.use(0));
        due.is("use none", 0, x.use(-1));
        due.is("none", -1, x.count(13));
    }

    private static void weights() {
        SkyMargins x = Due.withCopies(3);
        due.is("without a text", 10, x.weight(0, 0));
        int[][] bad = {{-1, 0}, {60, 0}, {0, -1}, {0, 100}};
        for (int[] b : bad) {
            due.is("weight bad", -1, x.weight(b[0], b[1]));
        }
        Due.use(x, "weight 7*wording-200");
        due.is("nearest above", 100, x.weight(59, 99));
        due.is("nearest below", 0, x.weight(0, 0));
        due.is("in between", 10, x.weight(0, 30));
        Due.use(x, "weight shared*10+place+chapter+wording");
        Due.write(x, 0, 12, 3);
        Due.write(x, 2, 12, 3);
        x.note(1, 12, 0, -1, 1);
        due.is("shared by two", 20 + 12 + 2 + 3, x.weight(12, 3));
        due.is("shared by none", 12 + 2 + 4, x.weight(12, 4));
        due.is("cut is not written", 12 + 2, x.weight(12, 0));
        Due.use(x, "weight 50+land+hand+kind+lists+looked");
        due.is("of the copy nothing", 50, x.weight(12, 3));
    }

    /** The weight of place 12 and wording 30 (chapter 2) by a sum. */
    private static void sum(String sum, int want) {
        SkyMargins x = new SkyMargins();
        Due.use(x, "weight " + sum);
        due.is(sum, want, x.weight(12, 30));
    }

    private static void sums() {
        sum("1+2*3", 7);
        sum("[1+2]*3", 9);
        sum("20-5-3", 12);
        sum("20-[5-3]", 18);
        sum("100/7/2", 7);
        sum("100/[7/2]", 33);
        sum("7*5/2", 17);
        sum("50+[1-8]/2", 47);
        sum("50+7/[1-3]", 47);
        sum("place+chapter+wording", 44);
        sum("wording/place", 2);
        sum("1000*1000*1000/1000/1000/1000", 1);
    }

    /** Whether place 12 with wording 30 weighs 77 by a test. */
    private static void test(String test, boolean want) {
        SkyMargins x = new SkyMargins();
        Due.use(x, "weight 77 if " + test);
        due.is(test, want ? 77 : 10, x.weight(12, 30));
    }

    private static void tests() {
        test("1<2", true);
        test("2<2", false);
        test("2>1", true);
        test("2>2", false);
        test("2=2", true);
        test("2=3", false);
        test("not 2=3", true);
        test("not not 2=3", false);
        test("not 1=1 or 1=1", true);
        test("not (1=1 or 1=1)", false);
        test("1=1 or 1=1 and 1=2", true);
        test("(1=1 or 1=1) and 1=2", false);
        test("1=2 and 1=1 or 1=1", true);
        test("1=2 and (1=1 or 1=1)", false);
        test("1=2 or 1=2 or 1=1", true);
        test("1=1 and 1=1 and 1=2", false);
        test("place=12 and chapter=2 and wording=30 and shared=0", true);
        test("1-2<0", true);
    }

    private static void broken() {
        sum("1/0", 10);
        sum("1000*1000*1000", 100);
        sum("1000*1000*1000+1", 10);
        sum("1000*1000*1000+1-1", 10);
        sum("0-1000*1000*1000", 0);
        sum("0-1000*1000*1000-1", 10);
        sum("0*[1/0]", 10);
        test("1/0=1", false);
        test("not 1/0=1", false);
        test("1=1 or 1/0=1", true);
        test("1/0=1 or 1=1", false);
        test("1=2 or 1/0=1", false);
        test("not (1=2 or 1/0=1)", false);
        test("1=2 and 1/0=1", false);
        test("not (1=2 and 1/0=1)", true);
        test("not (1=1 and 1/0=1)", false);
        test("1=2 and 1/0=1 or 1=1", true);
        test("(1=1 or 1/0=1) and 1=1", true);
        test("1=1 or 1=2 or 1/0=1", true);
        test("1<1/0", false);
    }

    private static void lastThatHolds() {
        SkyMargins x = new SkyMargins();
        Due.use(x, "weight 20;weight 30 if place>10;reads 9;weight 1/shared;weight 40 if place/shared=1");
        due.is("first", 20, x.weight(10, 0));
        due.is("second", 30, x.weight(11, 0));
        Due.use(x, "weight 30 if place>10;weight 20");
        due.is("last", 20, x.weight(11, 0));
        Due.use(x, "weight 30 if place>10");
        due.is("none holds", 10, x.weight(10, 0));
        Due.use(x, "reads 30");
        due.is("none with the head", 10, x.weight(10, 0));
    }

    private static void whatIsAsked() {
        SkyMargins x = new SkyMargins();
        x.copy(3, 41);
        x.copy(3, 41);
        x.hand(0, 400);
        x.look(1, 1);
        x.note(1, 12, 34, 0, 0);
        x.note(1, 13, 0, -1, 2);
        x.note(0, 12, 34, -1, 0);
        String copy = "land=3 and lists=41 and looked=1";
        asks(x, "place=12 and chapter=2 and wording=34 and shared=2 and hand=0 and kind=0 and " + copy, 1, 0);
        asks(x, "place=13 and chapter=2 and wording=0 and shared=0 and hand<0 and kind=2 and " + copy, 1, 0);
        asks(x, "wording=34 and hand=0-1 and looked=0", 0, 1);
        Due.use(x, "copies 0;adds 100 if chapter=11 and place+wording+shared+hand+kind=0 and " + copy
            + ";adds 0 if not (chapter=11 and looked=1)");
        due.is("a copy in a chapter", 1, x.run(7));
        due.is("which copy", 1, x.world(1, 0));
    }

    /** How many notes of both copies are late by a test. */
    private static void asks(SkyMargins x, String test, int ofSecond, int ofFirst) {
        int text = Due.text(x, "late if " + test);
        due.is(test, ofSecond, x.late(text, 1));
        due.is(test, ofFirst, x.late(text, 0));
    }
}
