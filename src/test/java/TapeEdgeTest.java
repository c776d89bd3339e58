/** The edges of promises 11 to 17: the tape, rows, and how texts come and are taken into use. */
public final class TapeEdgeTest {
    private static final int MIN = Edge.MIN;
    private static final int MAX = Edge.MAX;
    private static final Due due = new Due();
    private static final Edge standing = new Edge(due, Edge::standing);
    private static final Edge emptyOne = new Edge(due, SkyMargins::new);

    public static void main(String[] args) {
        feedHighestFirst();
        feedFourHundredAtMost();
        endNumbers();
        endKeepsTheFirst();
        rowNoSuchCopy();
        rowTapeIsEmpty();
        rowTrimsWhatCannotBe();
        rowTrimsWhatTheCopyHas();
        rowTrimsWithoutRoom();
        rowTrimsWhereTheTapeEnds();
        rowOfAFullTape();
        trimmedOfTheLatestNotRefused();
        textNoRoom();
        textUnread();
        textEightAtMost();
        faultOfTheLatestThatRead();
        useNumbers();
        useWhichWas();
        due.close();
    }

    /** Twenty bytes come behind the TAPE, four of each number, the highest first. */
    private static void feedHighestFirst() {
        // "late" and blanks, with the bytes of each number in order.
        SkyMargins x = new SkyMargins();
        due.is("feed", 20, x.feed(0x6C617465, 0x20696620, 0x706C6163, 0x653C3520, 0x20202020));
        due.is("late if place<5", 0, x.text());
        // Bytes of 128 and more, and numbers below 0.
        SkyMargins y = Due.withCopies(1);
        for (int hand = 0; hand < 12; hand++) {
            y.hand(0, 400);
        }
        y.feed(0x3B63FF00, 0x00000100, 0x0B0200FF, MIN, -1);
        due.is("bytes", 20, y.count(7));
        due.is("row", 4, y.row(0));
        // 128, 0, 0 can't be; so can't 0, 255, 255, and 255, 255 is not a whole one.
        due.is("trimmed", 3, y.trimmed());
        int[][] want = {{59, 99, -1}, {0, 0, 0}, {1, 0, 11}, {2, 0, -1}};
        for (int note = 0; note < want.length; note++) {
            for (int what = 0; what < 3; what++) {
                due.is("note " + note + " " + (what + 1), want[note][what], y.of(note, what + 1));
            }
        }
    }

    /** NONE, if there would be more than 400. */
    private static void feedFourHundredAtMost() {
        emptyOne.told("the first twenty", 20, x -> fedAndEnded(x, 0));
        SkyMargins x = new SkyMargins();
        for (int size = 20; size <= 400; size += 20) {
            due.is("feed to " + size, size, x.feed(-1, MIN, MAX, 0, 1));
            due.is("bytes", size, x.count(7));
        }
        due.is("feed to 420", -1, x.feed(0, 0, 0, 0, 0));
        due.is("bytes stay", 400, x.count(7));
        int[] ends = {399, 390, 381};
        for (int end : ends) {
            x.end(end);
            due.is("feed behind " + end, -1, x.feed(0, 0, 0, 0, 0));
            due.is("bytes stay " + end, end, x.count(7));
        }
        x.end(380);
        due.is("feed behind 380", 400, x.feed(0, 0, 0, 0, 0));
        due.is("feed is not refused", 0, x.status());
        // What is not fed leaves the tape's bytes as they are.
        SkyMargins y = new SkyMargins();
        Due.feed(y, "late" + " ".repeat(377));
        due.is("no room for twenty", -1, y.feed(-1, -1, -1, -1, -1));
        due.is("the text is as it was", 0, y.text());
        Edge long381 = new Edge(due, () -> longTape(381));
        long381.told("feed behind 381", -1, z -> z.feed(1, 2, 3, 4, 5));
        Edge long400 = new Edge(due, () -> longTape(400));
        long400.told("feed behind 400", -1, z -> z.feed(1, 2, 3, 4, 5));
    }

    private static int fedAndEnded(SkyMargins x, int end) {
        int size = x.feed(1, 2, 3, 4, 5);
        x.end(end);
        return size;
    }

    private static SkyMargins longTape(int size) {
        SkyMargins x = ended(Edge.standing());
        int[] bytes = new int[size];
        for (int i = 0; i < bytes.length; i++) {
            bytes[i] = i % 3 == 2 ? 255 : i / 3 % 60;
        }
        Due.feed(x, bytes);
        return x;
    }

    /** end: NONE, if it has not so many, or n is below 0. */
    private static void endNumbers() {
        standing.told("end", -1, (x, n) -> x.end(n), MIN, -2, -1, 5, 400, 401, MAX);
        standing.told("end at the end", 4, x -> x.end(4));
        emptyOne.told("end 0 of none", 0, x -> x.end(0));
        emptyOne.told("end of none", -1, (x, n) -> x.end(n), MIN, -1, 1, MAX);
        Edge full = new Edge(due, () -> longTape(400));
        full.told("end 400", 400, x -> x.end(400));
        full.told("end 401", -1, x -> x.end(401));
        SkyMargins x = Edge.standing();
        due.is("end 0", 0, x.end(0));
        due.is("none left", 0, x.count(7));
        due.is("and no more", -1, x.end(1));
        due.is("end is not refused", 0, x.count(8));
    }

    /** end: The TAPE has its first n bytes alone. */
    private static void endKeepsTheFirst() {
        for (int n = 0; n <= 4; n++) {
            SkyMargins x = new SkyMargins();
            Due.feed(x, "late");
            due.is("end " + n, n, x.end(n));
            due.is("bytes " + n, n, x.count(7));
            Due.feed(x, "late".substring(n));
            due.is("what is fed then comes behind them", 0, x.text());
        }
    }

    /** row: -2, the TAPE is empty then (not if -2). */
    private static void rowNoSuchCopy() {
        standing.refused("row of", -2, (x, n) -> x.row(n), MIN, -1, 4, 11, 12, MAX);
        Edge without = new Edge(due, () -> Due.withCopies(2));
        without.refused("row of no copy, -2 ahead of -6", -2, (x, n) -> x.row(n), MIN, -1, 2, MAX);
        emptyOne.refused("row without copies", -2, x -> x.row(0));
        Edge twelve = new Edge(due, () -> Edge.withCopies(12));
        twelve.taken("row of the twelfth", 1, x -> x.row(11));
        twelve.refused("row of the thirteenth", -2, x -> x.row(12));
        // The bytes wait for a copy that is there.
        SkyMargins x = Due.withCopies(1);
        Due.feed(x, 5, 6, 255);
        x.row(1);
        due.is("the tape stays", 3, x.count(7));
        due.is("its bytes, too", 1, x.row(0));
        due.is("place", 5, x.of(0, 1));
    }

    /** row: -6 the TAPE is empty. */
    private static void rowTapeIsEmpty() {
        Edge without = new Edge(due, () -> ended(Edge.standing()));
        without.refused("row of an empty tape", -6, x -> x.row(0));
        without.refused("row of an empty tape, last copy", -6, x -> x.row(3));
        standing.taken("row of a tape", 1, x -> x.row(3));
        standing.refused("row of the tape that a row took", -6, x -> second(x.row(0), x.row(0)), x -> x.row(0));
        SkyMargins x = Due.withCopies(1);
        Due.feed(x, 60, 0, 0);
        due.is("a row of which none came is not refused", 0, x.row(0));
        due.is("status", 0, x.status());
        due.is("the tape is empty then", 0, x.count(7));
    }

    private static SkyMargins ended(SkyMargins x) {
        x.end(0);
        return x;
    }

    private static int second(int first, int then) {
        return then;
    }

    private static void row(String what, SkyMargins x, int copy, int came, int trimmed, int... bytes) {
        Due.feed(x, bytes);
        int notes = x.count(3);
        due.is(what, came, x.row(copy));
        due.is(what + ", status", 0, x.status());
        due.is(what + ", trimmed", trimmed, x.trimmed());
        due.is(what + ", notes", notes + came, x.count(3));
        due.is(what + ", tape", 0, x.count(7));
    }

    /** One that can't be is TRIMMED (PLACE, WORDING, HAND; 255: not known). */
    private static void rowTrimsWhatCannotBe() {
        SkyMargins x = Due.withCopies(1);
        row("hand 0 without hands", x, 0, 0, 1, 1, 1, 0);
        row("no hand known without hands", x, 0, 1, 0, 1, 1, 255);
        x.hand(0, 400);
        row("hand 0", x, 0, 1, 0, 1, 2, 0);
        row("hand 1 of one", x, 0, 0, 1, 1, 3, 1);
        row("hands far off", x, 0, 0, 3, 1, 4, 254, 1, 4, 128, 1, 4, 12);
        row("the last place", x, 0, 1, 0, 59, 1, 255);
        row("places behind it", x, 0, 0, 3, 60, 1, 255, 128, 1, 255, 255, 1, 255);
        row("the first place", x, 0, 1, 0, 0, 1, 255);
        row("the last wording", x, 0, 1, 0, 1, 99, 255);
        row("wordings behind it", x, 0, 0, 3, 1, 100, 255, 1, 128, 255, 1, 255, 255);
        row("the first wording", x, 0, 1, 0, 1, 0, 255);
        row("some of each", x, 0, 2, 2, 60, 5, 255, 5, 5, 255, 5, 100, 255, 5, 6, 0);
        due.is("those that can be come in order", 5, x.of(x.count(3) - 2, 2));
        due.is("and the next", 6, x.of(x.count(3) - 1, 2));
        for (int note = 0; note < x.count(3); note++) {
            due.is("all are written", 0, x.of(note, 4));
            due.is("all in copy 0", 0, x.of(note, 0));
        }
        for (int hand = 1; hand < 12; hand++) {
            x.hand(0, 400);
        }
        row("the twelfth hand", x, 0, 1, 0, 7, 7, 11);
        due.is("is known", 11, x.of(x.count(3) - 1, 3));
        row("a thirteenth", x, 0, 0, 1, 7, 8, 12);
    }

    /** One that the COPY has is TRIMMED. */
    private static void rowTrimsWhatTheCopyHas() {
        SkyMargins x = Due.withCopies(2);
        x.hand(0, 400);
        x.note(0, 5, 6, 0, 0);
        x.note(0, 7, 0, 0, 1);
        row("that it has", x, 0, 0, 1, 5, 6, 0);
        row("in another hand", x, 0, 0, 1, 5, 6, 255);
        row("in another copy", x, 1, 1, 0, 5, 6, 255);
        row("where it is cut", x, 0, 1, 0, 7, 0, 255);
        row("twice in one row", x, 0, 1, 1, 8, 8, 255, 8, 8, 0);
        due.is("the first of them came", -1, x.of(x.count(3) - 1, 3));
    }

    /** One for which there is no room is TRIMMED. */
    private static void rowTrimsWithoutRoom() {
        SkyMargins x = Edge.withNotes(198);
        x.end(0);
        row("room for two of three", x, 1, 2, 1, 50, 1, 255, 50, 2, 255, 50, 3, 255);
        due.is("the first two came", 2, x.of(199, 2));
        row("no room", x, 1, 0, 2, 51, 1, 255, 51, 2, 255);
        row("no room, and not whole", x, 1, 0, 2, 51, 1, 255, 51);
        SkyMargins y = Edge.withNotes(199);
        y.end(0);
        row("room for the last of three", y, 1, 1, 2, 60, 1, 255, 3, 7, 255, 50, 3, 255);
        due.is("came", 3, y.of(199, 2));
    }

    /** One within which the TAPE ends is TRIMMED. */
    private static void rowTrimsWhereTheTapeEnds() {
        row("one byte", Due.withCopies(1), 0, 0, 1, 1);
        row("two bytes", Due.withCopies(1), 0, 0, 1, 1, 1);
        row("three bytes", Due.withCopies(1), 0, 1, 0, 1, 1, 255);
        row("four bytes", Due.withCopies(1), 0, 1, 1, 1, 1, 255, 2);
        row("five bytes", Due.withCopies(1), 0, 1, 1, 1, 1, 255, 2, 2);
        row("six bytes", Due.withCopies(1), 0, 2, 0, 1, 1, 255, 2, 2, 255);
        // Bytes that were on the tape ahead of its end are none.
        SkyMargins x = Due.withCopies(1);
        Due.feed(x, 1, 1, 255, 2, 2, 255);
        x.end(5);
        due.is("cut off", 1, x.row(0));
        due.is("cut off, trimmed", 1, x.trimmed());
    }

    private static void rowOfAFullTape() {
        SkyMargins x = Due.withCopies(1);
        int[] bytes = new int[400];
        for (int i = 0; i < 400; i++) {
            bytes[i] = i % 3 == 0 ? i / 3 % 60 : i % 3 == 1 ? i / 180 : 255;
        }
        row("133 and one byte", x, 0, 133, 1, bytes);
        row("all again", x, 0, 0, 134, bytes);
        due.is("the last", 132 % 60, x.of(132, 1));
        due.is("the last's wording", 397 / 180, x.of(132, 2));
    }

    /** trimmed: in the latest row() that was not REFUSED (0 ahead of any). */
    private static void trimmedOfTheLatestNotRefused() {
        emptyOne.told("trimmed ahead of any", 0, x -> x.trimmed());
        standing.told("trimmed", 1, x -> x.trimmed());
        SkyMargins x = Due.withCopies(1);
        x.row(0);
        x.row(1);
        due.is("refused alone", 0, x.trimmed());
        row("three trimmed", x, 0, 0, 3, 60, 0, 0, 60, 0, 0, 60);
        x.row(0);
        due.is("refused by -6", 3, x.trimmed());
        Due.feed(x, 60, 0, 0, 1, 1, 255);
        x.row(1);
        due.is("refused by -2", 3, x.trimmed());
        x.text();
        x.note(0, 0, 0, -1, 0);
        x.note(0, 0, 0, -1, 0);
        due.is("other calls", 3, x.trimmed());
        row("none trimmed", x, 0, 1, 0, 2, 2, 255);
    }

    /** text: -5 (ahead of reading it; the TAPE is empty then, too). */
    private static void textNoRoom() {
        Edge full = new Edge(due, () -> Edge.withTexts(8));
        full.told("the fault stands", 5, x -> x.fault());
        full.refused("no room for a text that can't be", -5, x -> x.text(), x -> x.end(0));
        Edge good = new Edge(due, () -> fed(Edge.withTexts(8), "late"));
        good.refused("no room for one that can be", -5, x -> x.text(), x -> x.end(0));
        Edge none = new Edge(due, () -> ended(Edge.withTexts(8)));
        none.refused("-5 ahead of -6, without bytes", -5, x -> x.text());
        Edge blanks = new Edge(due, () -> fed(Edge.withTexts(8), "   "));
        blanks.refused("-5 ahead of -6, of blanks", -5, x -> x.text(), x -> x.end(0));
    }

    private static SkyMargins fed(SkyMargins x, String text) {
        x.end(0);
        Due.feed(x, text);
        return x;
    }

    /** text: the TAPE, which is empty then; -6 (blanks alone: FAULT at the end). */
    private static void textUnread() {
        // The fault is at 5 in standing(), so that all else can be the same as without the call.
        Edge atFive = new Edge(due, () -> fed(Edge.standing(), "late "));
        atFive.taken("a text with a blank", 2, x -> x.text());
        Edge bad = new Edge(due, () -> fed(Edge.standing(), "late 1"));
        bad.refused("a text that can't be", -6, x -> x.text(), x -> x.end(0));
        Edge blanks = new Edge(due, () -> fed(Edge.standing(), "     "));
        blanks.refused("five blanks", -6, x -> x.text(), x -> x.end(0));
        int[] sizes = {0, 1, 19, 20, 21, 400};
        for (int size : sizes) {
            SkyMargins x = new SkyMargins();
            due.is(size + " blanks", -6, Due.text(x, " ".repeat(size)));
            due.is("status of " + size + " blanks", -6, x.status());
            due.is("fault at the end of " + size, size, x.fault());
            due.is("tape behind " + size, 0, x.count(7));
            due.is("texts behind " + size, 0, x.count(4));
        }
        SkyMargins y = new SkyMargins();
        due.is("a text", 0, Due.text(y, "late"));
        due.is("its tape is empty then", 0, y.count(7));
        due.is("so there is none left", -6, y.text());
        due.is("fault at 0", 0, y.fault());
        due.is("one of 400 bytes", 1, Due.text(y, "late" + " ".repeat(396)));
        due.is("one up to the end", 2, Due.text(y, "late;" + " ".repeat(391) + "late"));
        due.is("one with its fault in the last byte", -6, Due.text(y, "late" + " ".repeat(395) + "!"));
        due.is("fault at 399", 399, y.fault());
        due.is("one with its fault behind the last byte", -6, Due.text(y, "late" + " ".repeat(395) + ";"));
        due.is("fault at 400", 400, y.fault());
    }

    /** TEXTS, 8 at most: its number. */
    private static void textEightAtMost() {
        Edge seven = new Edge(due, () -> fed(Edge.withTexts(7), "late"));
        seven.taken("the eighth text", 7, x -> x.text());
        SkyMargins x = new SkyMargins();
        for (int text = 0; text < 8; text++) {
            due.is("text", text, Due.text(x, "weight " + (40 + text)));
            due.is("a bad one takes no number", text < 7 ? -6 : -5, Due.text(x, "weight"));
            due.is("texts", text + 1, x.count(4));
        }
        for (int text = 7; text >= 0; text--) {
            x.use(text);
            due.is("each is its own", 40 + text, x.weight(0, 0));
        }
    }

    /** fault: of the latest text() that read a TEXT: its place; NONE without. */
    private static void faultOfTheLatestThatRead() {
        emptyOne.told("fault ahead of any", -1, x -> x.fault());
        standing.told("fault", 5, x -> x.fault());
        SkyMargins x = new SkyMargins();
        Due.text(x, "late late");
        due.is("fault", 5, x.fault());
        Due.text(x, "late");
        due.is("none then", -1, x.fault());
        Due.text(x, "?");
        due.is("at 0", 0, x.fault());
        for (int text = 1; text < 8; text++) {
            Due.text(x, "late");
        }
        due.is("none behind the eighth", -1, x.fault());
        due.is("no room", -5, Due.text(x, "late ?"));
        due.is("not read", -1, x.fault());
        SkyMargins y = Edge.withTexts(8);
        due.is("no room", -5, Due.text(y, "late"));
        due.is("the one that was read", 5, y.fault());
    }

    /** use: -3 there is none such; NONE: none. */
    private static void useNumbers() {
        standing.refused("use", -3, (x, n) -> x.use(n), MIN, -2, 2, 7, 8, MAX);
        standing.taken("use none", 0, x -> x.use(SkyMargins.NONE));
        standing.taken("use the first, again", 0, x -> x.use(0));
        standing.taken("use the last", 0, x -> x.use(1));
        emptyOne.taken("use none of none", -1, x -> x.use(SkyMargins.NONE));
        emptyOne.refused("use of none", -3, (x, n) -> x.use(n), MIN, -2, 0, 7, 8, MAX);
        Edge full = new Edge(due, () -> Edge.withTexts(8));
        full.taken("use the eighth", 0, x -> x.use(7));
        full.refused("use a ninth", -3, x -> x.use(8));
    }

    /** use: which was; One TEXT is in USE (NONE at first: no CLAUSE). */
    private static void useWhichWas() {
        SkyMargins x = new SkyMargins();
        Due.text(x, "weight 1");
        Due.text(x, "weight 2");
        due.is("a text is not in use by itself", 10, x.weight(0, 0));
        int[] uses = {0, 0, 1, -1, -1, 1, 0};
        int[] weights = {1, 1, 2, 10, 10, 2, 1};
        int was = -1;
        for (int i = 0; i < uses.length; i++) {
            due.is("which was", was, x.use(uses[i]));
            due.is("in use", uses[i], x.count(13));
            due.is("weight", weights[i], x.weight(0, 0));
            due.is("refused", -3, x.use(2));
            due.is("still in use", uses[i], x.count(13));
            due.is("still its weight", weights[i], x.weight(0, 0));
            was = uses[i];
        }
    }
}
