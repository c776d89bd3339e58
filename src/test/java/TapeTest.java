/** Promises 11 to 14: the tape and rows of notes. */
public final class TapeTest {
    private static final Due due = new Due();

    public static void main(String[] args) {
        feeds();
        ends();
        bytesInOrder();
        rows();
        rowsTrimmed();
        rowsRefused();
        due.close();
    }

    private static void feeds() {
        SkyMargins x = new SkyMargins();
        for (int size = 20; size <= 400; size += 20) {
            due.is("feed", size, x.feed(1, 2, 3, 4, 5));
        }
        due.is("feed beyond", -1, x.feed(1, 2, 3, 4, 5));
        due.is("bytes", 400, x.count(7));
        due.is("end 381", 381, x.end(381));
        due.is("feed from 381", -1, x.feed(1, 2, 3, 4, 5));
        due.is("end 380", 380, x.end(380));
        due.is("feed from 380", 400, x.feed(1, 2, 3, 4, 5));
    }

    private static void ends() {
        SkyMargins x = new SkyMargins();
        due.is("end 0 of none", 0, x.end(0));
        due.is("end 1 of none", -1, x.end(1));
        x.feed(0, 0, 0, 0, 0);
        due.is("end -1", -1, x.end(-1));
        due.is("end 21", -1, x.end(21));
        due.is("end 20", 20, x.end(20));
        due.is("end 7", 7, x.end(7));
        due.is("end 8", -1, x.end(8));
        due.is("bytes", 7, x.count(7));
    }

    private static void bytesInOrder() {
        SkyMargins x = Due.withCopies(1);
        x.feed(0x0102FF03, 0x04FF0506, 0xFF0708FF, 0x090AFF0B, 0x0CFF0D0E);
        due.is("row", 6, x.row(0));
        due.is("trimmed", 1, x.trimmed());
        for (int note = 0; note < 6; note++) {
            due.is("place", 2 * note + 1, x.of(note, 1));
            due.is("wording", 2 * note + 2, x.of(note, 2));
            due.is("hand", -1, x.of(note, 3));
        }
    }

    private static void rows() {
        SkyMargins x = Due.withCopies(2);
        x.hand(0, 400);
        Due.feed(x, 3, 4, 0, 3, 5, 255, 59, 99, 255);
        due.is("row", 3, x.row(1));
        due.is("trimmed", 0, x.trimmed());
        due.is("tape is empty", 0, x.count(7));
        int[][] want = {{1, 3, 4, 0, 0}, {1, 3, 5, -1, 0}, {1, 59, 99, -1, 0}};
        for (int note = 0; note < 3; note++) {
            for (int what = 0; what < 5; what++) {
                due.is("of " + note + " " + what, want[note][what], x.of(note, what));
            }
        }
    }

    private static void rowsTrimmed() {
        SkyMargins x = Due.withCopies(1);
        x.hand(0, 400);
        Due.feed(x, 60, 0, 255, 0, 100, 255, 0, 0, 1, 0, 0, 254, 1, 1, 0, 1, 1, 255, 2, 2);
        due.is("row", 1, x.row(0));
        due.is("trimmed", 6, x.trimmed());
        Due.feed(x, 1, 1);
        due.is("row of a rest", 0, x.row(0));
        due.is("trimmed rest", 1, x.trimmed());
        due.is("notes", 1, x.count(3));
    }

    private static void rowsRefused() {
        SkyMargins x = Due.withCopies(1);
        Due.feed(x, 60, 1, 1);
        x.row(0);
        due.is("empty", -6, x.row(0));
        due.is("-2 ahead of -6", -2, x.row(1));
        due.is("trimmed stays", 1, x.trimmed());
        Due.feed(x, 1, 1, 255);
        due.is("no copy", -2, x.row(1));
        due.is("copy below", -2, x.row(-1));
        due.is("tape stays", 3, x.count(7));
        due.is("row", 1, x.row(0));
        due.is("trimmed none", 0, x.trimmed());
    }
}
