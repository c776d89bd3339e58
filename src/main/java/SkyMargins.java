import java.util.Arrays;

/** Copies of a book looked up for notes by hand: who copied whose, and what else the notes tell. */
public final class SkyMargins {

    public static final int NONE = -1;

    private static final int NO_NOTE = -2;
    private static final int NOTHING = -1000000;
    private static final int NOBODY = 100;

    private static final int BAD_NUMBER = -1;
    private static final int NO_SUCH = -2;
    private static final int CANNOT_BE = -3;
    private static final int NO_ROOM = -5;
    private static final int UNREADABLE = -6;
    private static final int REFUSALS = 7;

    private static final int COPIES = 12;
    private static final int LANDS = 8;
    private static final int LISTS = 6;
    private static final int STAYS = 40;
    private static final int TOWNS = 32;
    private static final int LAST_YEAR = 400;
    private static final int HANDS = 12;
    private static final int FORMS = 6;
    private static final int MOST_OF_A_FORM = 99;
    private static final int SAMPLES = 8;
    private static final int NOTES = 200;
    private static final int PLACES = 60;
    private static final int WORDINGS = 100;
    private static final int CHAPTERS = 12;
    private static final int PLACES_IN_CHAPTER = 5;
    private static final int TEXTS = 8;
    private static final int TAPE_BYTES = 400;
    private static final int FED_BYTES = 20;
    private static final int ROW_BYTES = 3;
    private static final int UNKNOWN_HAND = 255;
    private static final int IMAGES = 2;
    private static final int HUNDRED = 100;
    private static final int MILLION = 1000000;

    private static final int WRITTEN = 0;
    private static final int CUT = 1;
    private static final int THIN = 2;
    private static final int THICK = 3;

    // Columns of the tables.
    private static final int COPY_LAND = 0;
    private static final int COPY_LISTS = 1;
    private static final int COPY_LOOKED = 2;
    private static final int STAY_COPY = 0;
    private static final int STAY_TOWN = 1;
    private static final int STAY_FROM = 2;
    private static final int STAY_TO = 3;
    private static final int HAND_FROM = 0;
    private static final int HAND_TO = 1;
    private static final int HAND_FORMS = 2;
    private static final int NOTE_COPY = 0;
    private static final int NOTE_PLACE = 1;
    private static final int NOTE_WORDING = 2;
    private static final int NOTE_HAND = 3;
    private static final int NOTE_KIND = 4;
    private static final int NOTE_SHARED = 5;

    private static final int ADD = 0;
    private static final int LEAVE = 1;
    private static final int OWN = 2;
    private static final int LINE = 3;
    private static final int[] TERM_LEAST = {1, 0, 1, 0};
    private static final int[] TERM_MOST = {9, 9, 9, 1000};

    // Heads bear the numbers of their words in Parser.WORDS.
    private static final int HEAD_WEIGHT = 0;
    private static final int HEAD_READS = 1;
    private static final int HEAD_NOTES = 2;
    private static final int HEAD_COPIES = 3;
    private static final int HEAD_ADDS = 4;
    private static final int HEAD_LATE = 5;
    private static final int HEAD_STRUCK = 6;
    private static final int WEIGHT_WITHOUT = 10;
    private static final int CHANCE_WITHOUT = 50;

    private static final int ASKED_PLACE = 0;
    private static final int ASKED_CHAPTER = 1;
    private static final int ASKED_WORDING = 2;
    private static final int ASKED_SHARED = 3;
    private static final int ASKED_LAND = 4;
    private static final int ASKED_HAND = 5;
    private static final int ASKED_KIND = 6;
    private static final int ASKED_LISTS = 7;
    private static final int ASKED_LOOKED = 8;
    private static final int ASKED_WORDS = 9;

    // The codes of a compiled text; those before PLUS have an operand in the next cell.
    private static final int PUSH = 0;
    private static final int ASK = 1;
    private static final int OR_ELSE = 2;
    private static final int AND_THEN = 3;
    private static final int PLUS = 4;
    private static final int MINUS = 5;
    private static final int TIMES = 6;
    private static final int THROUGH = 7;
    private static final int LESS = 8;
    private static final int MORE = 9;
    private static final int SAME = 10;
    private static final int TURN = 11;
    // A clause's codes stand behind its head, its test's start and its end.
    private static final int CLAUSE_CELLS = 3;

    private final Shelf now = new Shelf();
    private final Shelf[] images = {new Shelf(), new Shelf()};
    private final boolean[] imageKept = new boolean[IMAGES];
    private final Tape tape = new Tape();
    private final Parser parser = new Parser(tape);
    private final Asker asker = new Asker();
    private final Readings readings = new Readings();
    private final Stemma stemma = new Stemma();
    private final Odds odds = new Odds();
    private final World latest = new World();
    private final int[] refused = new int[REFUSALS];
    private int latestStatus;
    private int latestTrimmed;
    private int latestFault = NONE;
    private boolean readingsFresh;
    private boolean stemmaFresh;

    public SkyMargins() {
    }

    public int copy(int land, int lists) {
        if (!within(land, 0, LANDS - 1) || !within(lists, 0, (1 << LISTS) - 1)) {
            return refuse(BAD_NUMBER);
        }
        int copy = now.copies.open();
        if (copy == NONE) {
            return refuse(NO_ROOM);
        }
        now.copies.put(copy, COPY_LAND, land);
        now.copies.put(copy, COPY_LISTS, lists);
        return changed(copy);
    }

    public int look(int copy, int looked) {
        if (!within(looked, 0, 1)) {
            return refuse(BAD_NUMBER);
        }
        if (!now.copies.holds(copy)) {
            return refuse(NO_SUCH);
        }
        return accept(now.copies.put(copy, COPY_LOOKED, looked));
    }

    public int stay(int copy, int town, int from, int to) {
        if (!within(town, 0, TOWNS - 1) || !areYears(from, to)) {
            return refuse(BAD_NUMBER);
        }
        if (!now.copies.holds(copy)) {
            return refuse(NO_SUCH);
        }
        int stay = now.stays.open();
        if (stay == NONE) {
            return refuse(NO_ROOM);
        }
        now.stays.put(stay, STAY_COPY, copy);
        now.stays.put(stay, STAY_TOWN, town);
        now.stays.put(stay, STAY_FROM, from);
        now.stays.put(stay, STAY_TO, to);
        return changed(now.stays.size());
    }

    public int hand(int from, int to) {
        if (!areYears(from, to)) {
            return refuse(BAD_NUMBER);
        }
        int hand = now.hands.open();
        if (hand == NONE) {
            return refuse(NO_ROOM);
        }
        now.hands.put(hand, HAND_FROM, from);
        now.hands.put(hand, HAND_TO, to);
        return accept(hand);
    }

    public int form(int hand, int form, int many) {
        if (!within(form, 0, FORMS - 1) || !within(many, 0, MOST_OF_A_FORM)) {
            return refuse(BAD_NUMBER);
        }
        if (!now.hands.holds(hand)) {
            return refuse(NO_SUCH);
        }
        return accept(now.hands.put(hand, HAND_FORMS + form, many));
    }

    public int sample(int sample, int form, int many) {
        if (!within(sample, 0, SAMPLES - 1) || !within(form, 0, FORMS - 1)
                || !within(many, 0, MOST_OF_A_FORM)) {
            return refuse(BAD_NUMBER);
        }
        return accept(now.samples.put(sample, form, many));
    }

    public int note(int copy, int place, int wording, int hand, int kind) {
        if (!isNote(place, wording, kind)) {
            return refuse(BAD_NUMBER);
        }
        if (!now.copies.holds(copy) || !now.isHandOrUnknown(hand)) {
            return refuse(NO_SUCH);
        }
        if (now.hasNote(copy, place, wording, kind)) {
            return refuse(CANNOT_BE);
        }
        int note = now.addNote(copy, place, wording, hand, kind);
        return note == NONE ? refuse(NO_ROOM) : changed(note);
    }

    public int of(int note, int what) {
        if (!now.notes.holds(note) || !within(what, NOTE_COPY, NOTE_SHARED)) {
            return NO_NOTE;
        }
        return what == NOTE_SHARED ? freshReadings().sharedOf(now, note) : now.notes.at(note, what);
    }

    public int terms(int what, int value) {
        if (!within(what, ADD, LINE) || !within(value, TERM_LEAST[what], TERM_MOST[what])) {
            return refuse(BAD_NUMBER);
        }
        int was = now.terms[what];
        now.terms[what] = value;
        return changed(was);
    }

    public int feed(int a, int b, int c, int d, int e) {
        if (!tape.hasRoomFor(FED_BYTES)) {
            return NONE;
        }
        tape.putNumber(a);
        tape.putNumber(b);
        tape.putNumber(c);
        tape.putNumber(d);
        tape.putNumber(e);
        return tape.size();
    }

    public int end(int n) {
        if (!within(n, 0, tape.size())) {
            return NONE;
        }
        tape.shorten(n);
        return n;
    }

    public int row(int copy) {
        if (!now.copies.holds(copy)) {
            return refuse(NO_SUCH);
        }
        int size = tape.size();
        if (size == 0) {
            return refuse(UNREADABLE);
        }
        int came = 0;
        int trimmed = 0;
        for (int at = 0; at < size; at += ROW_BYTES) {
            if (at + ROW_BYTES <= size && takeFromRow(copy, at)) {
                came++;
            } else {
                trimmed++;
            }
        }
        tape.shorten(0);
        latestTrimmed = trimmed;
        return changed(came);
    }

    public int trimmed() {
        return latestTrimmed;
    }

    public int text() {
        if (now.textCount >= TEXTS) {
            tape.shorten(0);
            return refuse(NO_ROOM);
        }
        Text text = parser.compile();
        latestFault = parser.faultPlace();
        tape.shorten(0);
        if (text == null) {
            return refuse(UNREADABLE);
        }
        return accept(now.addText(text));
    }

    public int fault() {
        return latestFault;
    }

    public int use(int text) {
        if (text != NONE && now.textOf(text) == null) {
            return refuse(CANNOT_BE);
        }
        int was = now.used;
        now.used = text;
        return changed(was);
    }

    public int weight(int place, int wording) {
        if (!within(place, 0, PLACES - 1) || !within(wording, 0, WORDINGS - 1)) {
            return NONE;
        }
        int shared = Integer.bitCount(freshReadings().holdersOf(place, wording));
        asker.askOfWording(place, wording, shared);
        return asker.told(now.textUsed(), HEAD_WEIGHT, WEIGHT_WITHOUT);
    }

    public int may(int exemplar, int copy) {
        if (!areTwoCopies(exemplar, copy)) {
            return NONE;
        }
        return now.companions(copy) >> exemplar & 1;
    }

    public int cost(int exemplar, int copy) {
        if (exemplar == NONE) {
            return now.copies.holds(copy) ? freshReadings().ownCost(now, copy) : NONE;
        }
        if (!areTwoCopies(exemplar, copy)) {
            return NONE;
        }
        return freshReadings().costFrom(now, 1 << exemplar, copy);
    }

    public int tree() {
        return freshStemma().leastCost();
    }

    public int whose(int copy) {
        if (!now.copies.holds(copy)) {
            return NONE;
        }
        int exemplar = freshStemma().exemplarOf(copy);
        return exemplar == NONE ? NOBODY : exemplar;
    }

    public int sure(int copy) {
        if (!now.copies.holds(copy)) {
            return NONE;
        }
        return freshStemma().isSure(copy) ? 1 : 0;
    }

    public int come(int copy, int what) {
        if (!now.copies.holds(copy) || !within(what, 0, 2)) {
            return NONE;
        }
        Stemma tree = freshStemma();
        if (what == 2) {
            return tree.stepsFromNobody(copy);
        }
        int many = 0;
        for (int other = 0; other < now.copies.size(); other++) {
            boolean comes = what == 0 ? tree.comesOf(other, copy) : tree.exemplarOf(other) == copy;
            many += comes ? 1 : 0;
        }
        return many;
    }

    public int net(int copy, int what) {
        if (!now.copies.holds(copy) || !within(what, 0, 3)) {
            return NOTHING;
        }
        Readings notes = freshReadings();
        int pair = notes.bestPair(now, copy);
        if (pair == 0) {
            return NOTHING;
        }
        if (what == 0) {
            return Integer.numberOfTrailingZeros(pair);
        }
        if (what == 1) {
            return 31 - Integer.numberOfLeadingZeros(pair);
        }
        int both = notes.costFrom(now, pair, copy);
        return what == 2 ? both : notes.bestSingleCost(now, copy) - both;
    }

    public int agree(int one, int other) {
        return areTwoCopies(one, other) ? freshReadings().agreement(one, other) : NONE;
    }

    public int families() {
        int all = now.allCopies();
        return freshReadings().familiesOf(now, all, all);
    }

    public int family(int copy) {
        if (!now.copies.holds(copy)) {
            return NONE;
        }
        int kin = freshReadings().familyOf(now, copy, now.allCopies());
        return Integer.numberOfTrailingZeros(kin);
    }

    public int joins(int copy) {
        if (!now.copies.holds(copy)) {
            return NOTHING;
        }
        int all = now.allCopies();
        int others = all & ~(1 << copy);
        Readings notes = freshReadings();
        // Both times the families of the others: a copy that is a family by itself is none of theirs.
        return notes.familiesOf(now, others, others) - notes.familiesOf(now, all, others);
    }

    public int times(int sample, int hand, int other) {
        if (!now.samples.holds(sample) || !now.hands.holds(hand) || !now.hands.holds(other)) {
            return NONE;
        }
        return odds.timesAsLikely(now, sample, hand, other);
    }

    public int written(int sample) {
        if (!now.samples.holds(sample) || now.hands.size() == 0) {
            return NONE;
        }
        return odds.likeliestHand(now, sample);
    }

    public int towns(int hand) {
        if (!now.hands.holds(hand)) {
            return NONE;
        }
        int writtenIn = now.copiesWithHand(hand);
        int from = now.hands.at(hand, HAND_FROM);
        int to = now.hands.at(hand, HAND_TO);
        int towns = 0;
        for (int stay = 0; stay < now.stays.size(); stay++) {
            boolean has = (writtenIn >> now.stays.at(stay, STAY_COPY) & 1) == 1;
            if (has && now.stays.at(stay, STAY_FROM) <= to && now.stays.at(stay, STAY_TO) >= from) {
                towns |= 1 << now.stays.at(stay, STAY_TOWN);
            }
        }
        return Integer.bitCount(towns);
    }

    public int dates(int copy, int what) {
        if (!now.copies.holds(copy) || !within(what, 0, 3)) {
            return NONE;
        }
        if (what < 2) {
            return what == 0 ? now.firstYear(copy) : now.lastYear(copy);
        }
        Stemma tree = freshStemma();
        return what == 2 ? firstYearByTree(tree, copy) : lastYearByTree(tree, copy);
    }

    public int read(int copy, int chapters) {
        if (!now.copies.holds(copy) || !within(chapters, 1, CHAPTERS)) {
            return NONE;
        }
        return odds.chanceRead(now, asker, copy, chapters);
    }

    public int stops(int copy, int what) {
        if (!now.copies.holds(copy) || !within(what, 0, 1)) {
            return NONE;
        }
        int chapters = now.chaptersWritten(copy);
        return what == 0 ? Integer.bitCount(chapters) : lastBit(chapters);
    }

    public int many(int list, int other) {
        if (!within(list, 0, LISTS - 1) || !within(other, 0, LISTS - 1) || list == other) {
            return NONE;
        }
        int inOne = 0;
        int inOther = 0;
        int inBoth = 0;
        for (int copy = 0; copy < now.copies.size(); copy++) {
            int lists = now.copies.at(copy, COPY_LISTS);
            int one = lists >> list & 1;
            int two = lists >> other & 1;
            inOne += one;
            inOther += two;
            inBoth += one & two;
        }
        return inBoth == 0 ? NONE : inOne * inOther / inBoth;
    }

    public int chao() {
        int seen = 0;
        int once = 0;
        int twice = 0;
        for (int copy = 0; copy < now.copies.size(); copy++) {
            int lists = Integer.bitCount(now.copies.at(copy, COPY_LISTS));
            seen += lists > 0 ? 1 : 0;
            once += lists == 1 ? 1 : 0;
            twice += lists == 2 ? 1 : 0;
        }
        return twice > 0 ? seen + once * once / (2 * twice) : seen + once * (once - 1) / 2;
    }

    public int censor(int land, int text, int what) {
        Text asked = now.textOf(text);
        if (!within(land, 0, LANDS - 1) || asked == null || !within(what, 0, 5)) {
            return NONE;
        }
        long struck = placesStruck(asked);
        int told = 0;
        for (int copy = 0; copy < now.copies.size(); copy++) {
            boolean counts = now.copies.at(copy, COPY_LAND) == land
                    && now.copies.at(copy, COPY_LOOKED) == 1;
            told += counts ? toldOfCensor(copy, struck, what) : 0;
        }
        return told;
    }

    public int late(int text, int copy) {
        Text asked = now.textOf(text);
        if (asked == null || copy != NONE && !now.copies.holds(copy)) {
            return NONE;
        }
        Readings notes = freshReadings();
        int many = 0;
        for (int note = 0; note < now.notes.size(); note++) {
            if (copy == NONE || now.notes.at(note, NOTE_COPY) == copy) {
                asker.askOfNote(now, note, notes.sharedOf(now, note));
                many += asker.holdsIn(asked, HEAD_LATE) ? 1 : 0;
            }
        }
        return many;
    }

    public int next(int what) {
        if (!within(what, 0, 1)) {
            return NONE;
        }
        int looked = now.copiesLookedAt();
        int best = NONE;
        int most = NONE;
        for (int copy = 0; copy < now.copies.size(); copy++) {
            if ((looked >> copy & 1) == 0) {
                int many = Integer.bitCount(now.companions(copy) & looked);
                if (many > most) {
                    most = many;
                    best = copy;
                }
            }
        }
        return what == 0 ? best : most;
    }

    public int run(int seed) {
        if (!within(seed, 0, MILLION)) {
            return refuse(BAD_NUMBER);
        }
        return accept(latest.draw(now, freshStemma(), asker, seed));
    }

    public int world(int copy, int what) {
        if (!latest.hasCopy(copy) || !within(what, 0, 2)) {
            return NONE;
        }
        if (what == 0) {
            return latest.notesOf(copy);
        }
        return what == 1 ? latest.notesCopied(copy) : latest.holdersOfFirst(copy);
    }

    public int image(int k) {
        if (!within(k, 0, IMAGES - 1)) {
            return refuse(BAD_NUMBER);
        }
        images[k].takeFrom(now);
        imageKept[k] = true;
        return accept(0);
    }

    public int back(int k) {
        if (!within(k, 0, IMAGES - 1)) {
            return refuse(BAD_NUMBER);
        }
        if (!imageKept[k]) {
            return refuse(NO_SUCH);
        }
        now.takeFrom(images[k]);
        return changed(0);
    }

    public int count(int what) {
        switch (what) {
            case 0: return now.copies.size();
            case 1: return now.stays.size();
            case 2: return now.hands.size();
            case 3: return now.notes.size();
            case 4: return now.textCount;
            case 5: return Integer.bitCount(now.copiesLookedAt());
            case 6: return now.notesWritten();
            case 7: return tape.size();
            case 8: return refused[-BAD_NUMBER];
            case 9: return refused[-NO_SUCH];
            case 10: return refused[-CANNOT_BE];
            case 11: return refused[-NO_ROOM];
            case 12: return refused[-UNREADABLE];
            case 13: return now.used;
            default: return NONE;
        }
    }

    public int status() {
        return latestStatus;
    }

    private int refuse(int by) {
        latestStatus = by;
        if (within(-by, 0, REFUSALS - 1)) {
            refused[-by]++;
        }
        return by;
    }

    private int accept(int answer) {
        latestStatus = 0;
        return answer;
    }

    /** Accepts a call behind which the readings and the tree may be others. */
    private int changed(int answer) {
        readingsFresh = false;
        stemmaFresh = false;
        return accept(answer);
    }

    private Readings freshReadings() {
        if (!readingsFresh) {
            readings.gather(now, asker);
            readingsFresh = true;
        }
        return readings;
    }

    private Stemma freshStemma() {
        if (!stemmaFresh) {
            stemma.grow(now, freshReadings());
            stemmaFresh = true;
        }
        return stemma;
    }

    private boolean areTwoCopies(int one, int other) {
        return one != other && now.copies.holds(one) && now.copies.holds(other);
    }

    /** Whether the three bytes of the tape at a place came as a note of a copy. */
    private boolean takeFromRow(int copy, int at) {
        int place = tape.byteAt(at);
        int wording = tape.byteAt(at + 1);
        int handByte = tape.byteAt(at + 2);
        int hand = handByte == UNKNOWN_HAND ? NONE : handByte;
        return isNote(place, wording, WRITTEN) && now.isHandOrUnknown(hand)
                && !now.hasNote(copy, place, wording, WRITTEN)
                && now.addNote(copy, place, wording, hand, WRITTEN) != NONE;
    }

    private int firstYearByTree(Stemma tree, int copy) {
        int first = 0;
        int at = copy;
        for (int step = 0; step < COPIES && at != NONE; step++) {
            first = Math.max(first, now.firstYear(at));
            at = tree.exemplarOf(at);
        }
        return first;
    }

    private int lastYearByTree(Stemma tree, int copy) {
        int last = now.lastYear(copy);
        for (int other = 0; other < now.copies.size(); other++) {
            if (tree.comesOf(other, copy)) {
                last = Math.min(last, now.lastYear(other));
            }
        }
        return last;
    }

    /** The places of which "struck" holds, a bit each. */
    private long placesStruck(Text text) {
        long struck = 0;
        for (int place = 0; place < PLACES; place++) {
            asker.askOfPlace(place);
            struck |= asker.holdsIn(text, HEAD_STRUCK) ? 1L << place : 0;
        }
        return struck;
    }

    private int toldOfCensor(int copy, long struck, int what) {
        if (what == 0) {
            return 1;
        }
        long thin = now.placesOfKind(copy, THIN) & struck;
        long thick = now.placesOfKind(copy, THICK) & struck;
        if (what > 3) {
            return Long.bitCount(what == 4 ? thin : thick);
        }
        long obeyed = thin | thick;
        // Where no place is struck, all of none are obeyed: "none of some" needs some.
        int group = obeyed == struck ? 1 : obeyed != 0 ? 2 : 3;
        return group == what ? 1 : 0;
    }

    private static boolean within(int number, int least, int most) {
        return number >= least && number <= most;
    }

    private static boolean areYears(int from, int to) {
        return within(from, 0, LAST_YEAR) && within(to, from, LAST_YEAR);
    }

    private static boolean isNote(int place, int wording, int kind) {
        return within(place, 0, PLACES - 1) && within(kind, WRITTEN, THICK)
                && within(wording, 0, kind == WRITTEN ? WORDINGS - 1 : 0);
    }

    private static int lastBit(int bits) {
        return 31 - Integer.numberOfLeadingZeros(bits);
    }

    /** Rows of numbers, of one width, up to a limit. */
    private static final class Table {
        private final int[] cells;
        private final int width;
        private final int most;
        private int rows;

        Table(int most, int width) {
            this.most = Math.max(most, 0);
            this.width = Math.max(width, 0);
            this.cells = new int[this.most * this.width];
        }

        int size() {
            return rows;
        }

        boolean holds(int row) {
            return row >= 0 && row < rows;
        }

        /** A new row of zeros: its number, or NONE if there is no room. */
        int open() {
            if (rows >= most) {
                return NONE;
            }
            int row = rows;
            rows++;
            // Zeros, whatever cells an image brought along behind its last row.
            for (int column = 0; column < width; column++) {
                put(row, column, 0);
            }
            return row;
        }

        int at(int row, int column) {
            if (row < 0 || row >= rows || column < 0 || column >= width) {
                return 0;
            }
            return cells[row * width + column];
        }

        /** Puts a number into a cell: what was there. */
        int put(int row, int column, int value) {
            if (!holds(row) || column < 0 || column >= width) {
                return 0;
            }
            int cell = row * width + column;
            int was = cells[cell];
            cells[cell] = value;
            return was;
        }

        void takeFrom(Table other) {
            rows = Math.min(other.rows, most);
            System.arraycopy(other.cells, 0, cells, 0, Math.min(cells.length, other.cells.length));
        }
    }

    /** All that an image keeps. */
    private static final class Shelf {
        final Table copies = new Table(COPIES, 3);
        final Table stays = new Table(STAYS, 4);
        final Table hands = new Table(HANDS, HAND_FORMS + FORMS);
        final Table samples = new Table(SAMPLES, FORMS);
        final Table notes = new Table(NOTES, 5);
        final int[] terms = {3, 1, 2, 20};
        final Text[] texts = new Text[TEXTS];
        int textCount;
        int used = NONE;

        Shelf() {
            for (int sample = 0; sample < SAMPLES; sample++) {
                samples.open();
            }
        }

        void takeFrom(Shelf other) {
            copies.takeFrom(other.copies);
            stays.takeFrom(other.stays);
            hands.takeFrom(other.hands);
            samples.takeFrom(other.samples);
            notes.takeFrom(other.notes);
            System.arraycopy(other.terms, 0, terms, 0, terms.length);
            for (int text = 0; text < TEXTS; text++) {
                texts[text] = other.texts[text];
            }
            textCount = other.textCount;
            used = other.used;
        }

        int addText(Text text) {
            if (textCount < 0 || textCount >= TEXTS) {
                return NONE;
            }
            texts[textCount] = text;
            textCount++;
            return textCount - 1;
        }

        Text textOf(int text) {
            return text >= 0 && text < textCount && text < TEXTS ? texts[text] : null;
        }

        Text textUsed() {
            return textOf(used);
        }

        int allCopies() {
            return (1 << copies.size()) - 1;
        }

        int copiesLookedAt() {
            int looked = 0;
            for (int copy = 0; copy < copies.size(); copy++) {
                looked |= copies.at(copy, COPY_LOOKED) << copy;
            }
            return looked;
        }

        boolean isHandOrUnknown(int hand) {
            return hand == NONE || hands.holds(hand);
        }

        boolean hasNote(int copy, int place, int wording, int kind) {
            for (int note = 0; note < notes.size(); note++) {
                if (notes.at(note, NOTE_PLACE) == place && notes.at(note, NOTE_COPY) == copy
                        && notes.at(note, NOTE_WORDING) == wording && notes.at(note, NOTE_KIND) == kind) {
                    return true;
                }
            }
            return false;
        }

        /** A new note: its number, or NONE if there is no room. */
        int addNote(int copy, int place, int wording, int hand, int kind) {
            int note = notes.open();
            notes.put(note, NOTE_COPY, copy);
            notes.put(note, NOTE_PLACE, place);
            notes.put(note, NOTE_WORDING, wording);
            notes.put(note, NOTE_HAND, hand);
            notes.put(note, NOTE_KIND, kind);
            return note;
        }

        int notesWritten() {
            int many = 0;
            for (int note = 0; note < notes.size(); note++) {
                many += notes.at(note, NOTE_KIND) == WRITTEN ? 1 : 0;
            }
            return many;
        }

        int copiesWithHand(int hand) {
            int having = 0;
            for (int note = 0; note < notes.size(); note++) {
                having |= notes.at(note, NOTE_HAND) == hand ? 1 << notes.at(note, NOTE_COPY) : 0;
            }
            return having;
        }

        /** The places at which a copy has a note of a kind, a bit each. */
        long placesOfKind(int copy, int kind) {
            long places = 0;
            for (int note = 0; note < notes.size(); note++) {
                boolean counts = notes.at(note, NOTE_COPY) == copy && notes.at(note, NOTE_KIND) == kind;
                places |= counts ? 1L << notes.at(note, NOTE_PLACE) : 0;
            }
            return places;
        }

        /** The chapters of a copy in which something is written, a bit each. */
        int chaptersWritten(int copy) {
            long places = placesOfKind(copy, WRITTEN);
            int chapters = 0;
            for (int place = 0; place < PLACES; place++) {
                chapters |= (int) (places >> place & 1) << place / PLACES_IN_CHAPTER;
            }
            return chapters;
        }

        /** The copies that may be exemplars of a copy, and it of them, a bit each. */
        int companions(int copy) {
            int stayed = 0;
            int met = 0;
            for (int stay = 0; stay < stays.size(); stay++) {
                int other = stays.at(stay, STAY_COPY);
                stayed |= 1 << other;
                met |= other != copy && metDuring(copy, stay) ? 1 << other : 0;
            }
            boolean anywhere = (stayed >> copy & 1) == 0;
            int companions = anywhere ? allCopies() : met | allCopies() & ~stayed;
            return companions & ~(1 << copy);
        }

        /** Whether a copy stayed in a stay's town within its years. */
        private boolean metDuring(int copy, int stay) {
            int town = stays.at(stay, STAY_TOWN);
            int from = stays.at(stay, STAY_FROM);
            int to = stays.at(stay, STAY_TO);
            for (int own = 0; own < stays.size(); own++) {
                if (stays.at(own, STAY_COPY) == copy && stays.at(own, STAY_TOWN) == town
                        && stays.at(own, STAY_FROM) <= to && stays.at(own, STAY_TO) >= from) {
                    return true;
                }
            }
            return false;
        }

        int firstYear(int copy) {
            int first = 0;
            int having = handsIn(copy);
            for (int hand = 0; hand < hands.size(); hand++) {
                first = Math.max(first, (having >> hand & 1) == 1 ? hands.at(hand, HAND_FROM) : 0);
            }
            int earliest = NONE;
            for (int stay = 0; stay < stays.size(); stay++) {
                if (stays.at(stay, STAY_COPY) == copy) {
                    int from = stays.at(stay, STAY_FROM);
                    earliest = earliest == NONE ? from : Math.min(earliest, from);
                }
            }
            return Math.max(first, earliest);
        }

        int lastYear(int copy) {
            int last = LAST_YEAR;
            int having = handsIn(copy);
            for (int hand = 0; hand < hands.size(); hand++) {
                last = Math.min(last, (having >> hand & 1) == 1 ? hands.at(hand, HAND_TO) : LAST_YEAR);
            }
            int latest = NONE;
            for (int stay = 0; stay < stays.size(); stay++) {
                if (stays.at(stay, STAY_COPY) == copy) {
                    latest = Math.max(latest, stays.at(stay, STAY_TO));
                }
            }
            return latest == NONE ? last : Math.min(last, latest);
        }

        /** The known hands of a copy's notes, a bit each. */
        private int handsIn(int copy) {
            int having = 0;
            for (int note = 0; note < notes.size(); note++) {
                int hand = notes.at(note, NOTE_HAND);
                boolean counts = notes.at(note, NOTE_COPY) == copy && hand != NONE;
                having |= counts ? 1 << hand : 0;
            }
            return having;
        }
    }

    /** The bytes that were fed. */
    private static final class Tape {
        private final int[] bytes = new int[TAPE_BYTES];
        private int size;

        int size() {
            return size;
        }

        boolean hasRoomFor(int more) {
            return size + more <= TAPE_BYTES;
        }

        void putNumber(int number) {
            for (int shift = 24; shift >= 0; shift -= 8) {
                if (size >= 0 && size < TAPE_BYTES) {
                    bytes[size] = number >> shift & 255;
                    size++;
                }
            }
        }

        void shorten(int length) {
            size = Math.max(0, Math.min(size, length));
        }

        /** The byte at a place; NONE behind the end. */
        int byteAt(int at) {
            return at >= 0 && at < size && at < TAPE_BYTES ? bytes[at] : NONE;
        }
    }

    /** A text that was read, as codes. It never changes, so images may share it. */
    private static final class Text {
        private final int[] codes;

        Text(int[] source, int length) {
            codes = Arrays.copyOf(source, Math.max(0, Math.min(length, source.length)));
        }

        int length() {
            return codes.length;
        }

        int codeAt(int at) {
            return at >= 0 && at < codes.length ? codes[at] : 0;
        }
    }

    /** Reads the tape's bytes as a text. */
    private static final class Parser {
        private static final String WORDS = "weight reads notes copies adds late struck if or and not place chapter wording shared land hand kind lists looked ";
        private static final int WORD_IF = 7;
        private static final int WORD_OR = 8;
        private static final int WORD_AND = 9;
        private static final int WORD_NOT = 10;
        private static final int WORD_PLACE = 11;
        private static final int WORD_LOOKED = 19;
        private static final int OTHER_WORD = 20;
        private static final int NUMBER = 21;
        private static final int END = 22;
        private static final int SIGN = 100;
        private static final int MOST_CLAUSES = 12;
        private static final int MOST_PARTS = 50;
        private static final int MOST_BRACKETS = 8;
        private static final int MOST_NUMBER = 1000;
        private static final int CODE_ROOM = 400;

        private final int[] codes = new int[CODE_ROOM];
        private final Tape tape;
        private int length;
        private int start;
        private int stop;
        private int token;
        private int value;
        private int parts;
        private int fault = NONE;

        Parser(Tape tape) {
            this.tape = tape;
        }

        int faultPlace() {
            return fault;
        }

        /** The text on the tape; null at a fault. */
        Text compile() {
            length = 0;
            stop = 0;
            parts = 0;
            fault = NONE;
            advance();
            for (int clause = 0; clause <= MOST_CLAUSES; clause++) {
                if (clause == MOST_CLAUSES) {
                    fail();
                }
                if (fault != NONE || !readClause()) {
                    return null;
                }
                if (token == END) {
                    return new Text(codes, length);
                }
                if (!takeSign(';')) {
                    return null;
                }
            }
            return null;
        }

        private boolean fail() {
            fault = start;
            return false;
        }

        private boolean readClause() {
            if (token < HEAD_WEIGHT || token > HEAD_STRUCK) {
                return fail();
            }
            int head = token;
            int clause = length;
            emit(head);
            emit(0);
            emit(0);
            advance();
            if (head < HEAD_LATE && !readSum(0)) {
                return false;
            }
            patch(clause + 1);
            if (token == WORD_IF) {
                advance();
                if (!readTest(0)) {
                    return false;
                }
            }
            patch(clause + 2);
            return true;
        }

        private boolean readTest(int depth) {
            if (!readBoth(depth)) {
                return false;
            }
            for (int more = 0; more < TAPE_BYTES && token == WORD_OR; more++) {
                int jump = emitJump(OR_ELSE);
                advance();
                if (!readBoth(depth)) {
                    return false;
                }
                patch(jump);
            }
            return true;
        }

        private boolean readBoth(int depth) {
            if (!readPlain(depth)) {
                return false;
            }
            for (int more = 0; more < TAPE_BYTES && token == WORD_AND; more++) {
                int jump = emitJump(AND_THEN);
                advance();
                if (!readPlain(depth)) {
                    return false;
                }
                patch(jump);
            }
            return true;
        }

        private boolean readPlain(int depth) {
            boolean turned = false;
            // A loop, so that a long row of "not" goes no deeper.
            for (int more = 0; more < TAPE_BYTES && token == WORD_NOT; more++) {
                turned = !turned;
                advance();
            }
            if (token == SIGN + '(') {
                if (!openBracket(depth) || !readTest(depth + 1) || !takeSign(')')) {
                    return false;
                }
            } else {
                if (!readSum(depth)) {
                    return false;
                }
                int code = token == SIGN + '<' ? LESS : token == SIGN + '>' ? MORE : SAME;
                if (code == SAME && token != SIGN + '=') {
                    return fail();
                }
                advance();
                if (!readSum(depth)) {
                    return false;
                }
                emit(code);
            }
            if (turned) {
                emit(TURN);
            }
            return true;
        }

        private boolean readSum(int depth) {
            if (!readTerm(depth)) {
                return false;
            }
            for (int more = 0; more < TAPE_BYTES && (token == SIGN + '+' || token == SIGN + '-'); more++) {
                int code = token == SIGN + '+' ? PLUS : MINUS;
                advance();
                if (!readTerm(depth)) {
                    return false;
                }
                emit(code);
            }
            return true;
        }

        private boolean readTerm(int depth) {
            if (!readPart(depth)) {
                return false;
            }
            for (int more = 0; more < TAPE_BYTES && (token == SIGN + '*' || token == SIGN + '/'); more++) {
                int code = token == SIGN + '*' ? TIMES : THROUGH;
                advance();
                if (!readPart(depth)) {
                    return false;
                }
                emit(code);
            }
            return true;
        }

        private boolean readPart(int depth) {
            if (token == SIGN + '[') {
                return openBracket(depth) && readSum(depth + 1) && takeSign(']');
            }
            boolean isNumber = token == NUMBER && value <= MOST_NUMBER;
            boolean isWord = token >= WORD_PLACE && token <= WORD_LOOKED;
            if (!isNumber && !isWord || parts >= MOST_PARTS) {
                return fail();
            }
            parts++;
            emit(isNumber ? PUSH : ASK);
            emit(isNumber ? value : token - WORD_PLACE);
            advance();
            return true;
        }

        private boolean openBracket(int depth) {
            if (depth >= MOST_BRACKETS) {
                return fail();
            }
            advance();
            return true;
        }

        private boolean takeSign(int sign) {
            if (token != SIGN + sign) {
                return fail();
            }
            advance();
            return true;
        }

        /** Goes on to the next token. */
        private void advance() {
            int size = tape.size();
            start = stop;
            while (start < size && tape.byteAt(start) == ' ') {
                start++;
            }
            stop = start;
            if (start >= size) {
                token = END;
                return;
            }
            int first = tape.byteAt(start);
            if (isLetter(first)) {
                while (stop < size && isLetter(tape.byteAt(stop))) {
                    stop++;
                }
                token = wordNumber();
            } else if (isDigit(first)) {
                token = NUMBER;
                value = 0;
                while (stop < size && isDigit(tape.byteAt(stop))) {
                    // One too large is as good as any other one too large.
                    value = Math.min(value * 10 + tape.byteAt(stop) - '0', MOST_NUMBER + 1);
                    stop++;
                }
            } else {
                stop = start + 1;
                token = SIGN + first;
            }
        }

        /** Which of WORDS the token is. */
        private int wordNumber() {
            int number = 0;
            int matched = 0;
            boolean same = true;
            for (int i = 0; i < WORDS.length(); i++) {
                char letter = WORDS.charAt(i);
                if (letter != ' ') {
                    int at = start + matched;
                    same = same && at >= 0 && at < stop && at < TAPE_BYTES && tape.bytes[at] == letter;
                    matched++;
                } else if (same && start + matched == stop) {
                    return number;
                } else {
                    number++;
                    matched = 0;
                    same = true;
                }
            }
            return OTHER_WORD;
        }

        private static boolean isLetter(int sign) {
            return sign >= 'a' && sign <= 'z';
        }

        private static boolean isDigit(int sign) {
            return sign >= '0' && sign <= '9';
        }

        private void emit(int code) {
            if (length >= 0 && length < CODE_ROOM) {
                codes[length] = code;
                length++;
            }
        }

        /** A jump whose target is not known yet: its target's cell. */
        private int emitJump(int code) {
            emit(code);
            emit(0);
            return length - 1;
        }

        /** Puts the place of the next code into a cell. */
        private void patch(int cell) {
            if (cell >= 0 && cell < CODE_ROOM) {
                codes[cell] = length;
            }
        }
    }

    /** Asks texts of notes, copies and places. */
    private static final class Asker {
        private static final int STACK_ROOM = 64;
        private static final long MOST_SUM = 1000000000L;

        private final int[] asked = new int[ASKED_WORDS];
        private final long[] stack = new long[STACK_ROOM];
        private boolean broken;

        void askOfPlace(int place) {
            Arrays.fill(asked, 0);
            asked[ASKED_PLACE] = place;
            asked[ASKED_CHAPTER] = place / PLACES_IN_CHAPTER;
        }

        void askOfWording(int place, int wording, int shared) {
            askOfPlace(place);
            asked[ASKED_WORDING] = wording;
            asked[ASKED_SHARED] = shared;
        }

        void askOfNote(Shelf shelf, int note, int shared) {
            askOfWording(shelf.notes.at(note, NOTE_PLACE), shelf.notes.at(note, NOTE_WORDING), shared);
            asked[ASKED_HAND] = shelf.notes.at(note, NOTE_HAND);
            asked[ASKED_KIND] = shelf.notes.at(note, NOTE_KIND);
            askOfCopy(shelf, shelf.notes.at(note, NOTE_COPY));
        }

        void askOfChapter(Shelf shelf, int copy, int chapter) {
            Arrays.fill(asked, 0);
            asked[ASKED_CHAPTER] = chapter;
            askOfCopy(shelf, copy);
        }

        private void askOfCopy(Shelf shelf, int copy) {
            asked[ASKED_LAND] = shelf.copies.at(copy, COPY_LAND);
            asked[ASKED_LISTS] = shelf.copies.at(copy, COPY_LISTS);
            asked[ASKED_LOOKED] = shelf.copies.at(copy, COPY_LOOKED);
        }

        /** What the last clause with a head that holds tells, 0 to 100; another number without. */
        int told(Text text, int head, int without) {
            int told = without;
            int size = text == null ? 0 : text.length();
            int clause = 0;
            while (clause < size) {
                int test = text.codeAt(clause + 1);
                int end = text.codeAt(clause + 2);
                if (text.codeAt(clause) == head && passes(text, test, end)) {
                    long sum = work(text, clause + CLAUSE_CELLS, test);
                    told = broken ? told : (int) Math.max(0, Math.min(HUNDRED, sum));
                }
                clause = Math.max(clause + CLAUSE_CELLS, end);
            }
            return told;
        }

        /** Whether a clause with a head without a sum holds. */
        boolean holdsIn(Text text, int head) {
            int size = text == null ? 0 : text.length();
            int clause = 0;
            while (clause < size) {
                int end = text.codeAt(clause + 2);
                if (text.codeAt(clause) == head && passes(text, text.codeAt(clause + 1), end)) {
                    return true;
                }
                clause = Math.max(clause + CLAUSE_CELLS, end);
            }
            return false;
        }

        private boolean passes(Text text, int test, int end) {
            return test >= end || work(text, test, end) == 1 && !broken;
        }

        /** What the codes from a place to another one leave on the stack; tells too if that is broken. */
        private long work(Text text, int from, int to) {
            int height = 0;
            int at = from;
            broken = false;
            // Jumps only lead forward.
            while (at < to && !broken) {
                int code = text.codeAt(at);
                int operand = text.codeAt(at + 1);
                long top = height > 0 && height <= STACK_ROOM ? stack[height - 1] : 0;
                at += code < PLUS ? 2 : 1;
                if (code == PUSH || code == ASK) {
                    if (height < STACK_ROOM) {
                        stack[height] = code == PUSH ? operand : askedOf(operand);
                        height++;
                    }
                } else if (code == OR_ELSE || code == AND_THEN) {
                    boolean decided = top == (code == OR_ELSE ? 1 : 0);
                    at = decided ? Math.max(at, operand) : at;
                    height = decided ? height : Math.max(0, height - 1);
                } else if (code == TURN) {
                    if (height > 0) {
                        stack[height - 1] = 1 - top;
                    }
                } else if (height > 1) {
                    height--;
                    stack[height - 1] = combined(code, stack[height - 1], top);
                }
            }
            return height > 0 ? stack[height - 1] : 0;
        }

        private int askedOf(int word) {
            return word >= 0 && word < ASKED_WORDS ? asked[word] : 0;
        }

        private long combined(int code, long left, long right) {
            if (code == THROUGH && right == 0) {
                broken = true;
                return 0;
            }
            long result;
            switch (code) {
                case PLUS: result = left + right; break;
                case MINUS: result = left - right; break;
                case TIMES: result = left * right; break;
                case THROUGH: result = right == 0 ? 0 : left / right; break;
                case LESS: result = left < right ? 1 : 0; break;
                case MORE: result = left > right ? 1 : 0; break;
                default: result = left == right ? 1 : 0; break;
            }
            broken = result > MOST_SUM || result < -MOST_SUM;
            return result;
        }
    }

    /** What is written, each place and wording once, with its copies and its weight. */
    private static final class Readings {
        private final int[] places = new int[NOTES];
        private final int[] wordings = new int[NOTES];
        private final int[] holders = new int[NOTES];
        private final int[] weights = new int[NOTES];
        // Chains of the readings at each place, so that finding one is short.
        private final int[] firstAt = new int[PLACES];
        private final int[] after = new int[NOTES];
        private final int[] cutAt = new int[PLACES];
        private final int[] near = new int[COPIES];
        private int size;

        void gather(Shelf shelf, Asker asker) {
            size = 0;
            Arrays.fill(firstAt, NONE);
            Arrays.fill(cutAt, 0);
            for (int note = 0; note < shelf.notes.size(); note++) {
                int copy = 1 << shelf.notes.at(note, NOTE_COPY);
                int place = shelf.notes.at(note, NOTE_PLACE);
                int kind = shelf.notes.at(note, NOTE_KIND);
                if (kind == WRITTEN) {
                    addHolder(place, shelf.notes.at(note, NOTE_WORDING), copy);
                } else if (kind == CUT && place >= 0 && place < PLACES) {
                    cutAt[place] |= copy;
                }
            }
            for (int reading = 0; reading < size; reading++) {
                asker.askOfWording(places[reading], wordings[reading], Integer.bitCount(holders[reading]));
                weights[reading] = asker.told(shelf.textUsed(), HEAD_WEIGHT, WEIGHT_WITHOUT);
            }
        }

        private void addHolder(int place, int wording, int copy) {
            int reading = find(place, wording);
            if (reading == NONE && size < NOTES && place >= 0 && place < PLACES) {
                reading = size;
                size++;
                places[reading] = place;
                wordings[reading] = wording;
                holders[reading] = 0;
                after[reading] = firstAt[place];
                firstAt[place] = reading;
            }
            if (reading != NONE) {
                holders[reading] |= copy;
            }
        }

        private int find(int place, int wording) {
            int reading = place >= 0 && place < PLACES ? firstAt[place] : NONE;
            for (int step = 0; step < NOTES && reading >= 0 && reading < size; step++) {
                if (wordings[reading] == wording) {
                    return reading;
                }
                reading = after[reading];
            }
            return NONE;
        }

        int holdersOf(int place, int wording) {
            int reading = find(place, wording);
            return reading == NONE ? 0 : holders[reading];
        }

        int sharedOf(Shelf shelf, int note) {
            if (shelf.notes.at(note, NOTE_KIND) != WRITTEN) {
                return 0;
            }
            int place = shelf.notes.at(note, NOTE_PLACE);
            return Integer.bitCount(holdersOf(place, shelf.notes.at(note, NOTE_WORDING)));
        }

        int ownCost(Shelf shelf, int copy) {
            int sum = 0;
            for (int reading = 0; reading < size; reading++) {
                sum += (holders[reading] >> copy & 1) * weights[reading];
            }
            return sum * shelf.terms[OWN];
        }

        /** The cost of a copy from some others (a bit each), as from one that has all that they have. */
        int costFrom(Shelf shelf, int exemplars, int copy) {
            int added = 0;
            int left = 0;
            for (int reading = 0; reading < size; reading++) {
                boolean has = (holders[reading] >> copy & 1) == 1;
                boolean had = (holders[reading] & exemplars) != 0;
                int cut = cutAt[places[reading]];
                if (has && !had && (cut & exemplars) != exemplars) {
                    added += weights[reading];
                } else if (had && !has && (cut >> copy & 1) == 0) {
                    left += weights[reading];
                }
            }
            return shelf.terms[ADD] * added + shelf.terms[LEAVE] * left;
        }

        /** The two best exemplars of a copy together, a bit each; 0 without two. */
        int bestPair(Shelf shelf, int copy) {
            int companions = shelf.companions(copy);
            int best = 0;
            int least = 0;
            for (int one = 0; one < COPIES; one++) {
                for (int other = one + 1; other < COPIES; other++) {
                    int pair = 1 << one | 1 << other;
                    if ((companions & pair) == pair) {
                        int cost = costFrom(shelf, pair, copy);
                        if (best == 0 || cost < least) {
                            best = pair;
                            least = cost;
                        }
                    }
                }
            }
            return best;
        }

        /** The least cost of a copy from one that may be its exemplar, or from nobody. */
        int bestSingleCost(Shelf shelf, int copy) {
            int companions = shelf.companions(copy);
            int least = ownCost(shelf, copy);
            for (int one = 0; one < COPIES; one++) {
                if ((companions >> one & 1) == 1) {
                    least = Math.min(least, costFrom(shelf, 1 << one, copy));
                }
            }
            return least;
        }

        int agreement(int one, int other) {
            int both = 1 << one | 1 << other;
            int sum = 0;
            for (int reading = 0; reading < size; reading++) {
                sum += (holders[reading] & both) == both ? weights[reading] : 0;
            }
            return sum;
        }

        /** How many families some copies (a bit each) make among themselves that hold any of the members. */
        int familiesOf(Shelf shelf, int among, int members) {
            findNear(shelf);
            int rest = among;
            int families = 0;
            for (int copy = 0; copy < COPIES; copy++) {
                if ((rest >> copy & 1) == 1) {
                    int family = spread(copy, rest);
                    rest &= ~family;
                    families += (family & members) != 0 ? 1 : 0;
                }
            }
            return families;
        }

        /** The family of a copy among some copies, a bit each. */
        int familyOf(Shelf shelf, int copy, int among) {
            findNear(shelf);
            return spread(copy, among);
        }

        private void findNear(Shelf shelf) {
            Arrays.fill(near, 0);
            int copies = Math.min(shelf.copies.size(), COPIES);
            for (int one = 0; one < copies; one++) {
                for (int other = one + 1; other < copies; other++) {
                    if (agreement(one, other) >= shelf.terms[LINE]) {
                        near[one] |= 1 << other;
                        near[other] |= 1 << one;
                    }
                }
            }
        }

        private int spread(int copy, int among) {
            int family = 1 << copy;
            for (int round = 0; round < COPIES; round++) {
                int before = family;
                for (int one = 0; one < COPIES; one++) {
                    family |= (before >> one & 1) == 1 ? near[one] & among : 0;
                }
                if (family == before) {
                    break;
                }
            }
            return family;
        }
    }

    /** The tree of exemplars: knot 0 is nobody, knot c + 1 the copy c. */
    private static final class Stemma {
        private static final int KNOTS = COPIES + 1;
        private static final long FAR = 1L << 62;
        private static final int NO_EDGE = -1;
        // 13 to the 12th: a row of exemplars is a number of 12 digits to the base 13.
        private static final long ROWS = 23298085122481L;

        private final int[] costs = new int[KNOTS * KNOTS];
        private final long[] edges = new long[KNOTS * KNOTS];
        private final long[] merged = new long[KNOTS * KNOTS];
        private final int[] nearest = new int[KNOTS];
        private final int[] group = new int[KNOTS];
        private final int[] seen = new int[KNOTS];
        private final int[] exemplars = new int[COPIES];
        private int knots;
        private int least;

        int leastCost() {
            return least;
        }

        /** The exemplar of a copy; NONE: nobody. */
        int exemplarOf(int copy) {
            return copy >= 0 && copy < COPIES ? exemplars[copy] : NONE;
        }

        int stepsFromNobody(int copy) {
            int steps = 0;
            int at = copy;
            for (int step = 0; step < COPIES && at != NONE; step++) {
                steps++;
                at = exemplarOf(at);
            }
            return steps;
        }

        /** Whether a copy comes of another one, by any steps. */
        boolean comesOf(int copy, int ancestor) {
            int at = exemplarOf(copy);
            for (int step = 0; step < COPIES && at != NONE; step++) {
                if (at == ancestor) {
                    return true;
                }
                at = exemplarOf(at);
            }
            return false;
        }

        void grow(Shelf shelf, Readings readings) {
            findCosts(shelf, readings);
            // The row of exemplars rides behind the cost, so the least sum is the first of the best.
            long rank = ROWS / KNOTS;
            for (int to = 1; to < knots; to++) {
                for (int from = 0; from < knots; from++) {
                    int edge = from * KNOTS + to;
                    edges[edge] = costs[edge] == NO_EDGE ? NO_EDGE : costs[edge] * ROWS + rank * from;
                }
                rank /= KNOTS;
            }
            long sum = leastSum();
            least = (int) (sum / ROWS);
            long row = sum % ROWS;
            for (int copy = COPIES - 1; copy >= 0; copy--) {
                exemplars[copy] = (int) (row % KNOTS) - 1;
                row /= KNOTS;
            }
        }

        /** Whether every tree without a copy's exemplar costs more. */
        boolean isSure(int copy) {
            for (int edge = 0; edge < costs.length; edge++) {
                edges[edge] = costs[edge];
            }
            int dropped = (exemplarOf(copy) + 1) * KNOTS + copy + 1;
            if (dropped >= 0 && dropped < edges.length) {
                edges[dropped] = NO_EDGE;
            }
            return leastSum() > least;
        }

        private void findCosts(Shelf shelf, Readings readings) {
            Arrays.fill(costs, NO_EDGE);
            knots = Math.min(shelf.copies.size(), COPIES) + 1;
            for (int copy = 0; copy < knots - 1; copy++) {
                int companions = shelf.companions(copy);
                costs[copy + 1] = readings.ownCost(shelf, copy);
                for (int other = 0; other < knots - 1; other++) {
                    if ((companions >> other & 1) == 1) {
                        costs[(other + 1) * KNOTS + copy + 1] = readings.costFrom(shelf, 1 << other, copy);
                    }
                }
            }
        }

        /** The least sum of edges by which every knot comes of knot 0 (Edmonds); FAR if there is none. */
        private long leastSum() {
            long sum = 0;
            int left = knots;
            for (int round = 0; round < KNOTS && left > 1; round++) {
                for (int knot = 1; knot < left; knot++) {
                    nearest[knot] = nearestTo(knot, left);
                    if (nearest[knot] == NO_EDGE) {
                        return FAR;
                    }
                    sum += edges[nearest[knot] * KNOTS + knot];
                }
                int groups = findGroups(left);
                if (groups == left) {
                    break;
                }
                mergeGroups(left);
                left = groups;
            }
            return sum;
        }

        private int nearestTo(int knot, int left) {
            int best = NO_EDGE;
            for (int from = 0; from < left; from++) {
                long edge = edges[from * KNOTS + knot];
                if (from != knot && edge != NO_EDGE
                        && (best == NO_EDGE || edge < edges[best * KNOTS + knot])) {
                    best = from;
                }
            }
            return best;
        }

        /** Numbers the groups: nobody, each ring of nearest ones, each other knot by itself. */
        private int findGroups(int left) {
            Arrays.fill(group, NO_EDGE);
            Arrays.fill(seen, 0);
            group[0] = 0;
            int groups = 1;
            for (int knot = 1; knot < left; knot++) {
                int at = knot;
                for (int step = 0; step < KNOTS && at != 0 && seen[at] == 0; step++) {
                    seen[at] = knot;
                    at = nearest[at];
                }
                if (at != 0 && seen[at] == knot) {
                    for (int step = 0; step < KNOTS && group[at] == NO_EDGE; step++) {
                        group[at] = groups;
                        at = nearest[at];
                    }
                    groups++;
                }
            }
            for (int knot = 1; knot < left; knot++) {
                if (group[knot] == NO_EDGE) {
                    group[knot] = groups;
                    groups++;
                }
            }
            return groups;
        }

        /** Makes a knot of each group; an edge into one costs what it costs more than the one taken. */
        private void mergeGroups(int left) {
            Arrays.fill(merged, NO_EDGE);
            for (int to = 1; to < left; to++) {
                long taken = edges[nearest[to] * KNOTS + to];
                for (int from = 0; from < left; from++) {
                    long edge = edges[from * KNOTS + to];
                    int into = group[from] * KNOTS + group[to];
                    if (group[from] != group[to] && edge != NO_EDGE
                            && (merged[into] == NO_EDGE || edge - taken < merged[into])) {
                        merged[into] = edge - taken;
                    }
                }
            }
            System.arraycopy(merged, 0, edges, 0, edges.length);
        }
    }

    /** A whole number of any size that is needed here, in limbs of 30 bits. */
    private static final class Big {
        // The likelihoods of two hands need fewer than 9,500 bits.
        private static final int LIMBS = 330;
        private static final int LIMB_BITS = 30;
        private static final long LIMB_MASK = (1L << LIMB_BITS) - 1;
        private static final long MOST_FACTOR = (1L << 31) - 1;

        private final long[] limbs = new long[LIMBS];
        private int size;

        void become(int number) {
            size = 0;
            if (number > 0) {
                limbs[0] = number & LIMB_MASK;
                limbs[1] = number >> LIMB_BITS;
                size = limbs[1] > 0 ? 2 : 1;
            }
        }

        void takeFrom(Big other) {
            size = other.size;
            System.arraycopy(other.limbs, 0, limbs, 0, Math.min(size, LIMBS));
        }

        boolean isZero() {
            return size == 0;
        }

        void multiply(long factor) {
            if (factor <= 0) {
                size = 0;
                return;
            }
            long carry = 0;
            for (int i = 0; i < size && i < LIMBS; i++) {
                long product = limbs[i] * factor + carry;
                limbs[i] = product & LIMB_MASK;
                carry = product >> LIMB_BITS;
            }
            for (int more = 0; more < 2 && carry > 0 && size < LIMBS; more++) {
                limbs[size] = carry & LIMB_MASK;
                carry >>= LIMB_BITS;
                size++;
            }
        }

        /** Multiplies by a factor many times, by as few long ways through the limbs as can be. */
        void multiplyOften(int factor, int many) {
            long bundle = 1;
            for (int k = 0; k < many; k++) {
                if (bundle * factor > MOST_FACTOR) {
                    multiply(bundle);
                    bundle = 1;
                }
                bundle *= factor;
            }
            multiply(bundle);
        }

        void add(Big other) {
            long carry = 0;
            int longer = Math.min(Math.max(size, other.size), LIMBS);
            for (int i = 0; i < longer; i++) {
                long sum = (i < size ? limbs[i] : 0) + (i < other.size ? other.limbs[i] : 0) + carry;
                limbs[i] = sum & LIMB_MASK;
                carry = sum >> LIMB_BITS;
            }
            size = longer;
            if (carry > 0 && size < LIMBS) {
                limbs[size] = carry;
                size++;
            }
        }

        boolean isMoreThan(Big other) {
            if (size != other.size) {
                return size > other.size;
            }
            for (int i = Math.min(size, LIMBS) - 1; i >= 0; i--) {
                if (limbs[i] != other.limbs[i]) {
                    return limbs[i] > other.limbs[i];
                }
            }
            return false;
        }
    }

    /** Chances, exactly: whose hand, and how far a reader came. */
    private static final class Odds {
        private final Big top = new Big();
        private final Big bottom = new Big();
        private final Big product = new Big();
        private final int[] reads = new int[CHAPTERS];
        private final int[] notes = new int[CHAPTERS];

        int timesAsLikely(Shelf shelf, int sample, int hand, int other) {
            weigh(shelf, sample, hand, other);
            return topThroughBottom();
        }

        int likeliestHand(Shelf shelf, int sample) {
            int best = 0;
            for (int hand = 1; hand < shelf.hands.size(); hand++) {
                weigh(shelf, sample, hand, best);
                best = top.isMoreThan(bottom) ? hand : best;
            }
            return best;
        }

        /** Makes top through bottom how many times as likely a sample is for a hand as for another one. */
        private void weigh(Shelf shelf, int sample, int hand, int other) {
            int signs = 0;
            int handAll = FORMS;
            int otherAll = FORMS;
            top.become(1);
            bottom.become(1);
            for (int form = 0; form < FORMS; form++) {
                int many = shelf.samples.at(sample, form);
                int ofHand = shelf.hands.at(hand, HAND_FORMS + form);
                int ofOther = shelf.hands.at(other, HAND_FORMS + form);
                weighFactor(ofHand + 1, ofOther + 1, many);
                signs += many;
                handAll += ofHand;
                otherAll += ofOther;
            }
            weighFactor(otherAll, handAll, signs);
        }

        private void weighFactor(int above, int below, int many) {
            int common = commonFactor(above, below);
            if (common > 0) {
                top.multiplyOften(above / common, many);
                bottom.multiplyOften(below / common, many);
            }
        }

        private static int commonFactor(int one, int other) {
            int a = one;
            int b = other;
            for (int step = 0; step < 64 && b != 0; step++) {
                int rest = a % b;
                a = b;
                b = rest;
            }
            return a;
        }

        /** Top through bottom, cut, a million at most. */
        private int topThroughBottom() {
            int low = 0;
            int high = MILLION;
            for (int step = 0; step < 32 && low < high; step++) {
                int middle = (low + high + 1) / 2;
                product.takeFrom(bottom);
                product.multiply(middle);
                if (product.isMoreThan(top)) {
                    high = middle - 1;
                } else {
                    low = middle;
                }
            }
            return low;
        }

        /** The chance in millionths that so many chapters at least were read; NONE if it can't be as it is. */
        int chanceRead(Shelf shelf, Asker asker, int copy, int chapters) {
            for (int chapter = 0; chapter < CHAPTERS; chapter++) {
                asker.askOfChapter(shelf, copy, chapter);
                reads[chapter] = asker.told(shelf.textUsed(), HEAD_READS, CHANCE_WITHOUT);
                notes[chapter] = asker.told(shelf.textUsed(), HEAD_NOTES, CHANCE_WITHOUT);
            }
            int written = shelf.chaptersWritten(copy);
            top.become(0);
            bottom.become(0);
            for (int read = Math.max(1, lastBit(written) + 1); read <= CHAPTERS; read++) {
                weighRead(read, written);
                bottom.add(product);
                if (read >= chapters) {
                    top.add(product);
                }
            }
            if (bottom.isZero()) {
                return NONE;
            }
            top.multiply(MILLION);
            return topThroughBottom();
        }

        /** Makes product the chance of so many chapters read and just these written, times 100 to the 23rd. */
        private void weighRead(int read, int written) {
            product.become(1);
            for (int chapter = 0; chapter < CHAPTERS; chapter++) {
                boolean wrote = (written >> chapter & 1) == 1;
                int noted = wrote ? notes[chapter] : HUNDRED - notes[chapter];
                product.multiply(chapter < read ? noted : HUNDRED);
                if (chapter > 0) {
                    int stopped = chapter == read ? HUNDRED - reads[chapter] : HUNDRED;
                    product.multiply(chapter < read ? reads[chapter] : stopped);
                }
            }
        }
    }

    /** A world drawn by the first tree. */
    private static final class World {
        private static final int MOST_NOTES = COPIES * CHAPTERS;
        private static final long MODULUS = 1000003L;

        private final int[] held = new int[COPIES * MOST_NOTES];
        private final int[] sizes = new int[COPIES];
        private final int[] copied = new int[COPIES];
        private int copies;
        private int newest;
        private long state;

        boolean hasCopy(int copy) {
            return copy >= 0 && copy < copies && copy < COPIES;
        }

        int notesOf(int copy) {
            return hasCopy(copy) ? sizes[copy] : 0;
        }

        int notesCopied(int copy) {
            return hasCopy(copy) ? copied[copy] : 0;
        }

        int holdersOfFirst(int copy) {
            if (notesOf(copy) == 0) {
                return 0;
            }
            int first = held[copy * MOST_NOTES];
            int many = 0;
            for (int other = 0; other < copies; other++) {
                many += hasNote(other, first) ? 1 : 0;
            }
            return many;
        }

        private boolean hasNote(int copy, int note) {
            for (int i = 0; i < notesOf(copy); i++) {
                if (held[copy * MOST_NOTES + i] == note) {
                    return true;
                }
            }
            return false;
        }

        /** Draws a world: how many notes all copies have together. */
        int draw(Shelf shelf, Stemma stemma, Asker asker, int seed) {
            copies = shelf.copies.size();
            newest = 0;
            state = seed;
            int gone = 0;
            int all = 0;
            for (int step = 0; step < copies; step++) {
                int copy = nextCopy(stemma, gone);
                if (copy != NONE) {
                    sizes[copy] = 0;
                    takeNotes(shelf, asker, copy, stemma.exemplarOf(copy));
                    copied[copy] = sizes[copy];
                    writeNotes(shelf, asker, copy);
                    gone |= 1 << copy;
                    all += sizes[copy];
                }
            }
            return all;
        }

        /** The lowest copy not gone whose exemplar has gone ahead. */
        private int nextCopy(Stemma stemma, int gone) {
            for (int copy = 0; copy < copies && copy < COPIES; copy++) {
                int exemplar = stemma.exemplarOf(copy);
                if ((gone >> copy & 1) == 0 && (exemplar == NONE || (gone >> exemplar & 1) == 1)) {
                    return copy;
                }
            }
            return NONE;
        }

        private void takeNotes(Shelf shelf, Asker asker, int copy, int exemplar) {
            asker.askOfChapter(shelf, copy, 0);
            int chance = asker.told(shelf.textUsed(), HEAD_COPIES, CHANCE_WITHOUT);
            for (int i = 0; i < notesOf(exemplar); i++) {
                if (drawOfHundred() < chance) {
                    put(copy, held[exemplar * MOST_NOTES + i]);
                }
            }
        }

        private void writeNotes(Shelf shelf, Asker asker, int copy) {
            for (int chapter = 0; chapter < CHAPTERS; chapter++) {
                asker.askOfChapter(shelf, copy, chapter);
                if (drawOfHundred() < asker.told(shelf.textUsed(), HEAD_ADDS, CHANCE_WITHOUT)) {
                    newest++;
                    put(copy, newest);
                }
            }
        }

        private void put(int copy, int note) {
            if (hasCopy(copy) && sizes[copy] < MOST_NOTES) {
                held[copy * MOST_NOTES + sizes[copy]] = note;
                sizes[copy]++;
            }
        }

        private int drawOfHundred() {
            state = (state * 1103 + 12345) % MODULUS;
            return (int) (state % HUNDRED);
        }
    }
}
