import java.util.List;

/** The edges of Terms II and of promises 15 to 18: tokens, where FAULT stands, how many of each, what is BROKEN. */
public final class TextEdgeTest {
    private static final String[] HEADS = {"weight", "reads", "notes", "copies", "adds", "late", "struck"};
    private static final String[] WORDS =
        {"place", "chapter", "wording", "shared", "land", "hand", "kind", "lists", "looked"};
    private static final String ALL_HEADS = "weight reads notes copies adds late struck";
    private static final String PARTS = "[ 7 1000 place chapter wording shared land hand kind lists looked";
    private static final String TESTS = "not ( " + PARTS;
    private static final String SUMS = "+ - * /";
    private static final String OTHERS = "1001 x weights plac ifs Weight LATE ? ! ' \" # & . , : { } ~ _ ` @ ^ | \\";
    private static final Due due = new Due();

    public static void main(String[] args) {
        tokensOfLetters();
        tokensOfDigits();
        tokensOfOtherBytes();
        blanksBetween();
        whatCanGoOn();
        numbersToAThousand();
        twelveClauses();
        fiftyParts();
        eightBrackets();
        nots();
        chapters();
        weightNumbers();
        weightNearest();
        weightAskedOf();
        noteAskedOf();
        placeAskedOf();
        askedAnew();
        cutTowardsZero();
        beyondABillion();
        dividedByZero();
        brokenParts();
        askedOnlyIfItMatters();
        lastThatHolds();
        due.close();
    }

    private static void good(String text) {
        SkyMargins x = new SkyMargins();
        due.is("text " + text, 0, Due.text(x, text));
        due.is("fault of " + text, -1, x.fault());
        due.is("texts behind " + text, 1, x.count(4));
    }

    private static void fault(String text, int place) {
        SkyMargins x = new SkyMargins();
        due.is("text " + text, -6, Due.text(x, text));
        due.is("fault of " + text, place, x.fault());
        due.is("texts behind " + text, 0, x.count(4));
        due.is("status behind " + text, -6, x.status());
    }

    /** TOKENS: longest rows of letters a .. z. */
    private static void tokensOfLetters() {
        fault("latea", 0);
        fault("latez", 0);
        fault("zlate", 0);
        fault("late`", 4);
        fault("late{", 4);
        fault("lateA", 4);
        fault("lateZ", 4);
        fault("Alate", 0);
        fault("latelate", 0);
        fault("la te", 0);
        fault("l", 0);
        fault("late if placeand", 8);
        fault("late ifplace=1", 5);
        fault("late if notplace=1", 8);
        good("late if not place=1");
        good("late if 1=1or 1=1and 1=1");
        good("weight1if 1=1");
        good("weight place/chapter*wording");
    }

    /** TOKENS: of digits. */
    private static void tokensOfDigits() {
        good("weight 0");
        good("weight 9");
        good("weight 0123");
        fault("weight 9:", 8);
        good("weight 9/9");
        fault("weight 1 0", 9);
        fault("weight 1place", 8);
        fault("weight place1", 12);
        fault("1weight 1", 0);
        fault("weight1weight", 7);
    }

    /** TOKENS: single other bytes. */
    private static void tokensOfOtherBytes() {
        fault("late if 1<=2", 10);
        fault("late if 1==2", 10);
        fault("late if 1<>2", 10);
        fault("weight 1++2", 9);
        fault("weight [1]]", 10);
        fault("late;;", 5);
        good("late;late");
        int[] bytes = {0, 1, 9, 10, 11, 13, 31, 33, 64, 91, 96, 123, 127, 128, 160, 173, 194, 255};
        for (int b : bytes) {
            SkyMargins x = new SkyMargins();
            Due.feed(x, 'l', 'a', 't', 'e', ' ', b, ' ');
            due.is("byte " + b, -6, x.text());
            due.is("fault at byte " + b, 5, x.fault());
            Due.feed(x, b, 'l', 'a', 't', 'e');
            due.is("byte ahead " + b, -6, x.text());
            due.is("fault at byte ahead " + b, 0, x.fault());
        }
    }

    /** TOKENS: any blanks (32) between. */
    private static void blanksBetween() {
        good("  late  ");
        good(" late;late ");
        good("weight[1+2]*3if(1<2)and not(1>2)");
        good("   weight   [   1   +   2   ]   *   3   if   (   1   <   2   )   and   not   (   1   >   2   )   ");
        fault("   ?", 3);
        fault("late   ?", 7);
        fault("late   1", 7);
        fault("weight   ", 9);
        fault("weight   if 1=1", 9);
        fault("late   ;   ", 11);
        fault("late if 1 < = 2", 12);
    }

    private static boolean among(String token, String all) {
        return List.of(all.split(" ")).contains(token);
    }

    /** FAULT: the first TOKEN that can't go on there (the end's: the TEXT's length). */
    private static void whatCanGoOn() {
        goOn("", ALL_HEADS);
        for (int head = 0; head < HEADS.length; head++) {
            goOn(HEADS[head], head < 5 ? PARTS : "if ; END");
            goOn("late ; " + HEADS[head], head < 5 ? PARTS : "if ; END");
        }
        for (String word : WORDS) {
            goOn("weight " + word, SUMS + " if ; END");
            goOn("late if " + word, SUMS + " < > =");
            goOn("struck if 1 = " + word, SUMS + " or and ; END");
        }
        String[] signs = {"+", "-", "*", "/"};
        for (String sign : signs) {
            goOn("weight 1 " + sign, PARTS);
            goOn("weight 1 " + sign + " 2", SUMS + " if ; END");
            goOn("weight [ 1 " + sign, PARTS);
            goOn("weight [ 1 " + sign + " 2", SUMS + " ]");
            goOn("late if 1 " + sign, PARTS);
            goOn("late if 1 = 1 " + sign, PARTS);
        }
        goOn("weight 1", SUMS + " if ; END");
        goOn("weight [", PARTS);
        goOn("weight [ [", PARTS);
        goOn("weight [ 1", SUMS + " ]");
        goOn("weight [ 1 ]", SUMS + " if ; END");
        goOn("weight [ [ 1 ]", SUMS + " ]");
        goOn("weight 1 if", TESTS);
        goOn("weight 1 ;", ALL_HEADS);
        goOn("late ;", ALL_HEADS);
        goOn("late if 1 = 1 ;", ALL_HEADS);
        goOnInTests();
    }

    private static void goOnInTests() {
        goOn("late if", TESTS);
        goOn("late if not", TESTS);
        goOn("late if not not", TESTS);
        goOn("late if (", TESTS);
        goOn("late if ( (", TESTS);
        goOn("late if ( not", TESTS);
        goOn("late if 1 = 1 or", TESTS);
        goOn("late if 1 = 1 and", TESTS);
        goOn("late if ( 1 = 1 ) or", TESTS);
        goOn("late if ( 1 = 1 ) and", TESTS);
        goOn("late if not 1", SUMS + " < > =");
        goOn("late if [", PARTS);
        goOn("late if [ 1", SUMS + " ]");
        goOn("late if [ 1 ]", SUMS + " < > =");
        goOn("late if ( 1", SUMS + " < > =");
        goOn("late if ( [ 1 ]", SUMS + " < > =");
        String[] signs = {"<", ">", "="};
        for (String sign : signs) {
            goOn("late if 1 " + sign, PARTS);
            goOn("late if 1 " + sign + " 2", SUMS + " or and ; END");
            goOn("late if not 1 " + sign + " 2", SUMS + " or and ; END");
            goOn("late if ( 1 " + sign + " 2", SUMS + " or and )");
            goOn("late if ( 1 " + sign + " 2 )", "or and ; END");
            goOn("late if 1 = 1 and 1 " + sign + " 2", SUMS + " or and ; END");
            goOn("late if 1 = 1 or 1 " + sign + " 2", SUMS + " or and ; END");
        }
        goOn("late if ( ( 1 = 1 )", "or and )");
        goOn("late if not ( 1 = 1 )", "or and ; END");
        goOn("late if 1 = [ 1 ]", SUMS + " or and ; END");
    }

    /** Which of all tokens can go on behind a text, and that the fault is at all others. */
    private static void goOn(String text, String can) {
        String ahead = text.isEmpty() ? "" : text + " ";
        String all = ALL_HEADS + " if or and ) ] ; < > = " + SUMS + " " + TESTS + " " + OTHERS;
        for (String token : all.split(" ")) {
            SkyMargins x = new SkyMargins();
            Due.text(x, ahead + token);
            boolean stopped = x.fault() == ahead.length();
            due.is(ahead + token, among(token, can) ? 0 : 1, stopped ? 1 : 0);
            due.is("status behind " + ahead + token, x.fault() < 0 ? 0 : -6, x.status());
        }
        SkyMargins x = new SkyMargins();
        due.is(text + " and no more", among("END", can) ? 0 : -6, Due.text(x, text));
        due.is("fault of " + text, among("END", can) ? -1 : text.length(), x.fault());
    }

    /** NUMBER (to 1,000). */
    private static void numbersToAThousand() {
        good("weight 999");
        good("weight 1000");
        good("weight 00000000000000001000");
        fault("weight 1001", 7);
        fault("weight 01001", 7);
        fault("weight 10000", 7);
        fault("weight 2147483647", 7);
        // 1 and 1,000 by numbers of 32 and of 64 bits that wrap around.
        fault("weight 4294967297", 7);
        fault("weight 4294968296", 7);
        fault("weight 18446744073709551617", 7);
        fault("weight " + "9".repeat(393), 7);
        good("weight " + "0".repeat(393));
        good("weight " + "0".repeat(389) + "1000");
        fault("weight " + "0".repeat(389) + "1001", 7);
        fault("weight 1+1001", 9);
        fault("weight [1001]", 8);
        fault("late if 1001=1", 8);
        fault("late if 1=1001", 10);
        sum("1000/10", 100);
        sum("1000/1000*37", 37);
        sum("999-998+41", 42);
        sum("0037", 37);
    }

    /** 12 CLAUSES at most (FAULT at the 13th's first TOKEN). */
    private static void twelveClauses() {
        for (String head : HEADS) {
            String clause = among(head, "late struck") ? head : head + " 1";
            good((clause + ";").repeat(11) + clause);
            int ahead = 12 * (clause.length() + 1);
            fault((clause + ";").repeat(12) + clause, ahead);
            fault((clause + ";").repeat(12) + "  " + clause, ahead + 2);
        }
        fault("late;".repeat(12), 60);
        fault("late;".repeat(12) + "   ", 63);
        fault("late;".repeat(12) + "?", 60);
        fault("late;".repeat(11), 55);
        fault("late;".repeat(11) + "?", 55);
        fault("late;".repeat(11) + "late?", 59);
        fault("late if 1=1;".repeat(12) + "late if 1=1;late", 144);
        good("late if 1=1;".repeat(11) + "late if 1=1");
    }

    /** 50 PARTS that are NUMBERS and words (FAULT at the 51st). */
    private static void fiftyParts() {
        good("weight 1" + "+1".repeat(49));
        fault("weight 1" + "+1".repeat(50), 107);
        good("weight kind" + "*kind".repeat(49));
        fault("weight kind" + "*kind".repeat(50), 257);
        good("weight 1" + "+kind".repeat(49));
        fault("weight 1" + "+1".repeat(49) + "+kind", 107);
        fault("weight 1" + "+1".repeat(49) + "+[1]", 108);
        fault("weight 1" + "+1".repeat(49) + "+1001", 107);
        good("weight [1]" + "+[1]".repeat(49));
        fault("weight [1]" + "+[1]".repeat(50), 208);
        good("late if 1=1" + " or 1=1".repeat(24));
        fault("late if 1=1" + " or 1=1".repeat(25), 8 + 7 * 25);
        fault("late if 1=1" + " or 1=1".repeat(24) + " or kind", 8 + 7 * 25);
        fault("weight 1 if 1=1" + " or 1=1".repeat(24), 12 + 7 * 24 + 2);
        good("weight 1" + "+1".repeat(23) + ";reads 1" + "+1".repeat(23) + ";late if 1=1");
        fault("weight 1" + "+1".repeat(23) + ";reads 1" + "+1".repeat(23) + ";late if 1=1;adds 1",
            8 + 46 + 8 + 46 + 12 + 6);
        // The count starts anew with each text.
        SkyMargins x = new SkyMargins();
        for (int text = 0; text < 8; text++) {
            due.is("fifty again", text, Due.text(x, "weight 1" + "+1".repeat(49)));
        }
    }

    private static String within(int many, String open, String in, String close) {
        return open.repeat(many) + in + close.repeat(many);
    }

    /** 8 brackets of both kinds within one another (FAULT at the 9th). */
    private static void eightBrackets() {
        good("weight " + within(8, "[", "1", "]"));
        fault("weight " + within(9, "[", "1", "]"), 15);
        good("late if " + within(8, "(", "1=1", ")"));
        fault("late if " + within(9, "(", "1=1", ")"), 16);
        good("late if 1=" + within(8, "[", "1", "]"));
        fault("late if 1=" + within(9, "[", "1", "]"), 18);
        for (int round = 1; round < 8; round++) {
            int square = 8 - round;
            good("late if " + within(round, "(", within(square, "[", "1", "]") + "=1", ")"));
            good("late if " + within(round, "(", "1=" + within(square, "[", "1", "]"), ")"));
            fault("late if " + within(round, "(", within(square + 1, "[", "1", "]") + "=1", ")"), 16);
            fault("late if " + within(round, "(", "1=" + within(square + 1, "[", "1", "]"), ")"), 18);
            good("late if " + within(round, "not(", within(square, "(", "1=1", ")"), ")"));
            fault("late if " + within(round, "not(", within(square + 1, "(", "1=1", ")"), ")"), 16 + 3 * round);
        }
        fault("late if " + within(8, "(", "[1]=1", ")"), 16);
        good("late if " + within(8, "(", "1=1", ")") + " or " + within(8, "(", "1=1", ")"));
        good("late if " + within(7, "(", "(1=1) and (1=1)", ")"));
        good("weight " + within(8, "[", "1", "]") + "+" + within(8, "[", "1", "]"));
        good("weight " + within(7, "[", "[1]+[1]", "]"));
        good("weight " + within(8, "[", "1", "]") + ";late if " + within(8, "(", "1=1", ")"));
        good("weight [1]" + "*[1]".repeat(40));
        good("late if (1=1)" + " and (1=1)".repeat(24));
        // Told as without the brackets.
        sum(within(8, "[", "41+1", "]"), 42);
        test(within(8, "(", "1=1", ")"), true);
        test("not " + within(8, "(", "1=1", ")"), false);
    }

    /** PLAIN: "not" PLAIN, as many as the tape holds. */
    private static void nots() {
        test("not ".repeat(90) + "1=1", true);
        test("not ".repeat(89) + "1=1", false);
        test("not ".repeat(90) + "1=2", false);
        test("not ".repeat(89) + "1=2", true);
        good("late if " + "not ".repeat(97) + "1=1");
        fault("late if " + "not ".repeat(98), 400);
        test("not(not(not(not(not(not(not(not(1=1))))))))", true);
        test("not(not(not(not(not(not(not(1=1)))))))", false);
    }

    /** CHAPTER: PLACE through 5, cut. */
    private static void chapters() {
        SkyMargins x = new SkyMargins();
        Due.use(x, "weight chapter");
        for (int place = 0; place < 60; place++) {
            due.is("chapter of " + place, place / 5, x.weight(place, 0));
        }
    }

    /** weight: NONE. */
    private static void weightNumbers() {
        Edge standing = new Edge(due, Edge::standing);
        standing.told("weight at", -1, (x, n) -> x.weight(n, 0), Edge.MIN, -1, 60, Edge.MAX);
        standing.told("weight with", -1, (x, n) -> x.weight(0, n), Edge.MIN, -1, 100, Edge.MAX);
        standing.told("weight of neither", -1, x -> x.weight(60, 100));
        standing.told("weight of the first", 30, x -> x.weight(0, 0));
        standing.told("weight at the last place", 10, x -> x.weight(59, 0));
        standing.told("weight with the last wording", 30, x -> x.weight(0, 99));
        standing.told("weight of the last", 10, x -> x.weight(59, 99));
    }

    /** WEIGHT: 0 .. 100 (else the nearest), 10 without. */
    private static void weightNearest() {
        int[] sums = {0, 1, 10, 50, 99, 100};
        for (int sum : sums) {
            sum("" + sum, sum);
        }
        sum("101", 100);
        sum("1000", 100);
        sum("1000*1000*1000", 100);
        sum("0-1", 0);
        sum("0-1000", 0);
        sum("0-1000*1000*1000", 0);
        SkyMargins x = new SkyMargins();
        due.is("without a text", 10, x.weight(12, 30));
        String[] without = {"late", "reads 70", "struck if 1=1", "weight 70 if 1=2", "weight 1/0"};
        for (String text : without) {
            SkyMargins y = new SkyMargins();
            Due.use(y, text);
            due.is(text, 10, y.weight(12, 30));
        }
    }

    /** The weight of place 12 and wording 30 by a sum; 10, if it is broken. */
    private static void sum(String sum, int want) {
        SkyMargins x = new SkyMargins();
        Due.use(x, "weight " + sum);
        due.is(sum, want, x.weight(12, 30));
    }

    private static void broken(String sum) {
        SkyMargins x = new SkyMargins();
        Due.use(x, "weight 77;weight " + sum);
        due.is("broken " + sum, 77, x.weight(12, 30));
        Due.use(x, "weight 77;weight 78 if " + sum + "=1 or 1=1");
        due.is("broken in or " + sum, 77, x.weight(12, 30));
        Due.use(x, "weight 77;weight 78 if not " + sum + "=1");
        due.is("broken in not " + sum, 77, x.weight(12, 30));
        Due.use(x, "weight 77;weight 78 if 1=1 and 1>" + sum);
        due.is("broken in and " + sum, 77, x.weight(12, 30));
        Due.use(x, "weight 77;weight 78 if not (1=1 and 1>" + sum + ")");
        due.is("broken in all of it " + sum, 77, x.weight(12, 30));
    }

    /** Whether place 12 with wording 30 weighs 77 by a test. */
    private static void test(String test, boolean want) {
        SkyMargins x = new SkyMargins();
        due.is("text " + test, 0, Due.text(x, "weight 77 if " + test));
        x.use(0);
        due.is(test, want ? 77 : 10, x.weight(12, 30));
    }

    /** WEIGHT: asked of them, the PLACE's CHAPTER and shared alone; what it is not asked of is 0. */
    private static void weightAskedOf() {
        SkyMargins x = new SkyMargins();
        for (int copy = 0; copy < 3; copy++) {
            x.copy(7, 63);
            x.look(copy, 1);
            x.hand(0, 400);
            x.note(copy, 59, 99, copy, 0);
            x.note(copy, 59, 0, copy, 3);
        }
        Due.use(x, "weight 77 if place=59 and chapter=11 and wording=99 and shared=3"
            + " and land=0 and hand=0 and kind=0 and lists=0 and looked=0");
        due.is("asked", 77, x.weight(59, 99));
        due.is("of another wording", 10, x.weight(59, 98));
        due.is("by agreeing", 77, x.agree(0, 1));
        Due.use(x, "weight shared");
        due.is("shared by three", 3, x.weight(59, 99));
        due.is("strokes are not written", 0, x.weight(59, 0));
        due.is("shared by none", 0, x.weight(58, 99));
    }

    /** Asked of a NOTE (hand: -1 if it is not known; shared: 0 unless it is WRITTEN) of its COPY. */
    private static void noteAskedOf() {
        SkyMargins x = new SkyMargins();
        x.copy(7, 63);
        x.copy(0, 0);
        x.look(0, 1);
        for (int hand = 0; hand < 12; hand++) {
            x.hand(0, 400);
        }
        x.note(0, 59, 99, 11, 0);
        x.note(1, 0, 0, 0, 0);
        x.note(0, 0, 0, -1, 3);
        x.note(1, 0, 0, 5, 1);
        x.note(0, 4, 0, -1, 0);
        String copy0 = "land=7 and lists=63 and looked=1";
        String copy1 = "land=0 and lists=0 and looked=0";
        late(x, "place=59 and chapter=11 and wording=99 and shared=1 and hand=11 and kind=0 and " + copy0, 1, 0);
        late(x, "place=0 and chapter=0 and wording=0 and shared=1 and hand=0 and kind=0 and " + copy1, 0, 1);
        late(x, "place=0 and wording=0 and shared=0 and hand=0-1 and kind=3 and " + copy0, 1, 0);
        late(x, "place=0 and wording=0 and shared=0 and hand=5 and kind=1 and " + copy1, 0, 1);
        late(x, "hand=0-1", 2, 0);
        late(x, "hand<0", 2, 0);
        late(x, "shared=0", 1, 1);
    }

    private static void late(SkyMargins x, String test, int inFirst, int inSecond) {
        int text = Due.text(x, "late if " + test);
        due.is(test, inFirst, x.late(text, 0));
        due.is(test, inSecond, x.late(text, 1));
        due.is(test, inFirst + inSecond, x.late(text, -1));
    }

    /** Asked of a PLACE (place, chapter) alone; what it is not asked of is 0. */
    private static void placeAskedOf() {
        SkyMargins x = new SkyMargins();
        x.copy(7, 63);
        x.look(0, 1);
        x.hand(0, 400);
        x.hand(0, 400);
        Due.write(x, 0, 59, 99);
        x.note(0, 59, 0, 1, 2);
        x.note(0, 54, 0, 1, 2);
        int nothing = Due.text(x, "struck if wording=0 and shared=0 and land=0 and hand=0 and kind=0 and lists=0 and looked=0");
        due.is("what it is not asked of is 0", 2, x.censor(7, nothing, 4));
        int last = Due.text(x, "struck if place=59 and chapter=11");
        due.is("the last place", 1, x.censor(7, last, 4));
        due.is("of one place all", 1, x.censor(7, last, 1));
        int ahead = Due.text(x, "struck if chapter=10");
        due.is("the chapter ahead", 1, x.censor(7, ahead, 4));
        due.is("of five places some", 1, x.censor(7, ahead, 2));
    }

    /** What a text is not asked of is 0, whatever was asked ahead. */
    private static void askedAnew() {
        SkyMargins x = new SkyMargins();
        x.copy(7, 63);
        x.look(0, 1);
        x.hand(0, 400);
        x.hand(0, 400);
        x.note(0, 59, 99, 1, 0);
        x.note(0, 59, 0, 1, 3);
        int text = Due.text(x, "weight 77 if land+lists+looked+hand+kind=0;late if place*wording*shared*land*hand*lists*looked>0"
            + " or kind=3;struck if wording+shared+land+hand+kind+lists+looked=0;reads 100;notes 100*chapter/11;"
            + "notes 50 if place+wording+shared+hand+kind>0");
        x.use(text);
        for (int round = 0; round < 3; round++) {
            due.is("a note", 2, x.late(text, -1));
            due.is("a wording behind a note", 77, x.weight(59, 99));
            due.is("a place behind a wording", 1, x.censor(7, text, 5));
            due.is("a note behind a place", 2, x.late(text, 0));
            due.is("a place behind a note", 1, x.censor(7, text, 5));
            due.is("a chapter behind a place", 1000000, x.read(0, 12));
            due.is("a wording behind a chapter", 77, x.weight(0, 0));
            x.late(text, 0);
            due.is("a chapter behind a note", 1000000, x.read(0, 12));
            x.look(0, 1);
            x.terms(0, 3);
            x.late(text, 0);
            due.is("all weights anew behind a note", 154, x.tree());
        }
    }

    /** / is cut towards 0. */
    private static void cutTowardsZero() {
        sum("50+7/2", 53);
        sum("50+[0-7]/2", 47);
        sum("50+7/[0-2]", 47);
        sum("50+[0-7]/[0-2]", 53);
        sum("50+1/2", 50);
        sum("50+[0-1]/2", 50);
        sum("50+1/[0-2]", 50);
        sum("50+[0-1]/1000", 50);
        sum("0/5+50", 50);
        sum("50+100/7/2", 57);
        sum("50+5/2*2", 54);
        sum("50-7/2", 47);
    }

    /** Beyond 1,000,000,000 either way a SUM, a TEST is BROKEN. */
    private static void beyondABillion() {
        sum("1000*1000*1000", 100);
        sum("1000*1000*1000/1000/1000/20", 50);
        sum("999*1000*1000+1000*1000-1000*1000*1000+50", 50);
        sum("0-1000*1000*1000+1000*1000*1000+50", 50);
        sum("1000*1000*[0-1000]+1000*1000*1000+50", 50);
        sum("1000*1000*[0-1000]*[0-1]/1000/1000/20", 50);
        test("1000*1000*1000>0", true);
        test("1000*1000*1000-1=999*1000*1000+999*1000+999", true);
        test("0-1000*1000*1000<0", true);
        String[] beyond = {"1000*1000*1000+1", "0-1000*1000*1000-1", "1000*1000*1000-[0-1]", "1000*1000*1000+1-1",
            "0-1000*1000*1000-1+1", "1+1000*1000*1000-1", "1000*1000*1000*2/2", "1000*1000*[0-1000-1]",
            "500*1000*1000+500*1000*1000+1", "1000*1000*1000*[0-2]/[0-2]", "[0-1000]*1000*1000*2",
            "0*[1000*1000*1000+1]", "1000*1000*1000*1000*0"};
        for (String sum : beyond) {
            broken(sum);
        }
        // Numbers of 32 and of 64 bits would wrap around here.
        broken("256*256*[256*256]");
        broken("256*256*256*128");
        broken("256*256*256*256+50");
        broken("1000*1000*1000*[1000*1000*1000]*[1000*1000*1000]");
        broken("1000*1000*1000*1000*1000*1000*1000*1000*1000*1000");
        broken("1000*1000*1000+1000*1000*1000+1000*1000*1000");
    }

    /** Divided by 0, a SUM, a TEST is BROKEN. */
    private static void dividedByZero() {
        String[] sums = {"1/0", "0/0", "[0-1]/0", "1/[1-1]", "5/[place-12]", "1/shared", "0*[1/0]", "1/0*0", "50+1/0",
            "1/0+50", "50-1/0", "1/0/1", "1/[1/2]", "1/[0/5]", "[1/0]"};
        for (String sum : sums) {
            broken(sum);
        }
        sum("0/1+50", 50);
        sum("50/[place-11]", 50);
    }

    /** A part that was asked and is BROKEN makes all of it BROKEN. */
    private static void brokenParts() {
        String[] tests = {"1/0=1", "1=1/0", "1/0<1", "1>1/0", "not 1/0=1", "not not 1/0=1", "(1/0=1)", "not (1/0=1)",
            "1/0=1 or 1=1", "1=2 or 1/0=1", "1=2 or 1/0=1 or 1=1", "1/0=1 and 1=2", "1=1 and 1/0=1",
            "1=1 and 1/0=1 or 1=1", "(1=1 and 1/0=1) or 1=1", "not (1=1 and 1/0=1)", "not (1/0=1 or 1=1)",
            "not (1/0=1 and 1=2)", "1=2 or (1=1 and 1/0=1) or 1=1", "(1=2 or 1/0=1) and 1=2 or 1=1"};
        for (String test : tests) {
            test(test, false);
            test("not (" + test + ")", false);
        }
    }

    /** "or", "and" ask what stands behind only if it can still matter. */
    private static void askedOnlyIfItMatters() {
        test("1=1 or 1/0=1", true);
        test("not (1=1 or 1/0=1)", false);
        test("1=2 and 1/0=1", false);
        test("not (1=2 and 1/0=1)", true);
        test("1=2 or 1=1 or 1/0=1", true);
        test("1=1 or 1/0=1 or 1=2", true);
        test("1=1 or 1/0=1 and 1/0=1", true);
        test("not (1=1 and 1=2 and 1/0=1)", true);
        test("not (1=2 and 1/0=1 and 1=1)", true);
        test("1=2 and 1/0=1 or 1=1", true);
        test("1=2 and (1/0=1 or 1=1) or 1=1", true);
        test("1=1 and (1=1 or 1/0=1)", true);
        test("(1=1 or 1/0=1) and (1=1 or 1/0=1)", true);
        test("not 1=2 or 1/0=1", true);
        test("not (not 1=2 and not (1=1 or 1/0=1))", true);
        test("1=1 or (((1/0=1)))", true);
        // Both sides of a comparison, of a sum, of a product are always asked.
        test("0*[1/0]=0", false);
        test("0<1/0", false);
    }

    /** Told by a HEAD is what the last CLAUSE with it that HOLDS tells. */
    private static void lastThatHolds() {
        String[] texts = {"weight 20;weight 30", "weight 30;weight 20 if 1=2", "weight 30;weight 1/0", "weight 30;weight 20 if 1/0=1",
            "weight 30;weight 20 if not 1/0=1", "weight 30;late;reads 20", "weight 20;weight 30 if 1=1;weight 40 if 1=2;weight 1/0",
            "reads 20;weight 30", "weight 20;".repeat(11) + "weight 30", "weight 30;" + "weight 20 if 1=2;".repeat(10) + "weight 1/0",
            "weight 1/0;weight 30", "weight 130-100;weight 1000*1000*1000+1"};
        for (String text : texts) {
            SkyMargins x = new SkyMargins();
            Due.use(x, text);
            due.is(text, 30, x.weight(12, 30));
        }
        // "late" and "struck" hold, if any clause with them holds.
        String[] late = {"late;late if 1=2", "late;late if 1/0=1", "late if 1=2;late", "late if 1/0=1;late;struck if 1=2"};
        for (String text : late) {
            SkyMargins x = Due.withCopies(1);
            Due.write(x, 0, 0, 0);
            x.note(0, 0, 0, -1, 2);
            x.look(0, 1);
            due.is(text, 2, x.late(Due.text(x, text), -1));
            due.is(text.replace("late", "struck"), 1, x.censor(0, Due.text(x, text.replace("late", "struck")), 4));
        }
        String[] never = {"struck", "weight 1", "late if 1=2", "late if 1/0=1", "late if not 1/0=1;late if 1=2"};
        for (String text : never) {
            SkyMargins x = Due.withCopies(1);
            Due.write(x, 0, 0, 0);
            due.is(text, 0, x.late(Due.text(x, text), -1));
        }
    }
}
