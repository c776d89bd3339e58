import java.util.ArrayList;
import java.util.List;

/** Calls at the edges: what each answers, what status() and count(8 .. 12) tell behind it, and what stands then. */
final class Edge {
    static final int MIN = Integer.MIN_VALUE;
    static final int MAX = Integer.MAX_VALUE;
    private static final int[] REFUSALS = {-1, -2, -3, -5, -6};

    interface Call {
        int on(SkyMargins x);
    }

    interface Maker {
        SkyMargins made();
    }

    /** A call with one of its numbers left open. */
    interface Open {
        int on(SkyMargins x, int number);
    }

    private final Due due;
    private final Maker maker;

    Edge(Due due, Maker maker) {
        this.due = due;
        this.maker = maker;
    }

    /** A call that is refused by a number: it is counted by that number alone, and all stands as without it. */
    void refused(String call, int by, Call made) {
        refused(call, by, made, x -> 0);
    }

    /** A refused call behind which all stands as behind another one. */
    void refused(String call, int by, Call made, Call alike) {
        SkyMargins x = maker.made();
        SkyMargins same = maker.made();
        // Not refused, so that the status must become another one.
        x.image(1);
        same.image(1);
        due.is(call, by, made.on(x));
        due.is("status behind " + call, by, x.status());
        alike.on(same);
        for (int i = 0; i < REFUSALS.length; i++) {
            int more = REFUSALS[i] == by ? 1 : 0;
            due.is("count " + (8 + i) + " behind " + call, same.count(8 + i) + more, x.count(8 + i));
        }
        stand("all that stands behind " + call, same, x);
    }

    /** Refused by a number for each of some numbers. */
    void refused(String call, int by, Open made, int... numbers) {
        for (int number : numbers) {
            refused(call + " " + number, by, x -> made.on(x, number));
        }
    }

    /** A call that is not refused: status() tells 0 then, and none is counted as refused. */
    void taken(String call, int answer, Call made) {
        SkyMargins x = maker.made();
        x.run(-1);
        int[] before = refusals(x);
        due.is(call, answer, made.on(x));
        due.is("status behind " + call, 0, x.status());
        same("refusals behind " + call, before, refusals(x));
    }

    /** A call that tells of what stands: that, status() and count(8 .. 12) stay as they are, whatever it tells. */
    void told(String call, int answer, Call made) {
        SkyMargins x = maker.made();
        SkyMargins same = maker.made();
        x.back(-1);
        same.back(-1);
        int[] before = refusals(x);
        due.is(call, answer, made.on(x));
        due.is("status behind " + call, -1, x.status());
        same("refusals behind " + call, before, refusals(x));
        stand("all that stands behind " + call, same, x);
    }

    /** Told the same for each of some numbers. */
    void told(String call, int answer, Open made, int... numbers) {
        for (int number : numbers) {
            told(call + " " + number, answer, x -> made.on(x, number));
        }
    }

    private static int[] refusals(SkyMargins x) {
        int[] all = new int[REFUSALS.length];
        for (int i = 0; i < all.length; i++) {
            all[i] = x.count(8 + i);
        }
        return all;
    }

    private void same(String what, int[] want, int[] got) {
        for (int i = 0; i < want.length; i++) {
            due.is(what + " (" + i + ")", want[i], got[i]);
        }
    }

    private void stand(String what, SkyMargins want, SkyMargins got) {
        due.is(what, 0, firstOther(all(want), all(got)));
    }

    /** Which answer is the first other one, from 1; 0 if there is none. */
    private static int firstOther(List<Integer> want, List<Integer> got) {
        int many = Math.max(want.size(), got.size());
        for (int i = 0; i < many; i++) {
            if (i >= want.size() || i >= got.size() || !want.get(i).equals(got.get(i))) {
                return i + 1;
            }
        }
        return 0;
    }

    /** Some 250 answers that tell what stands; some of these calls change it, so this is the last of an object. */
    private static List<Integer> all(SkyMargins x) {
        List<Integer> all = new ArrayList<>();
        for (int what = 0; what < 8; what++) {
            all.add(x.count(what));
        }
        all.add(x.count(13));
        all.add(x.trimmed());
        all.add(x.fault());
        allOfNotes(x, all);
        allOfTrees(x, all);
        for (int what = 0; what < 3; what++) {
            all.add(x.world(0, what));
            all.add(x.world(1, what));
            all.add(x.world(4, what));
        }
        allByChanging(x, all);
        return all;
    }

    private static void allOfNotes(SkyMargins x, List<Integer> all) {
        int notes = x.count(3);
        for (int note = 0; note < Math.min(notes, 8); note++) {
            for (int what = 0; what < 6; what++) {
                all.add(x.of(note, what));
            }
        }
        for (int what = 0; what < 5; what++) {
            all.add(x.of(notes - 1, what));
        }
        for (int text = 0; text < x.count(4); text++) {
            all.add(x.late(text, SkyMargins.NONE));
            all.add(x.censor(7, text, 4));
        }
        for (int hand = 0; hand < Math.min(3, x.count(2)); hand++) {
            all.add(x.towns(hand));
            all.add(x.times(0, hand, 0));
            all.add(x.times(7, hand, 0));
        }
        all.add(x.weight(3, 7));
        all.add(x.weight(59, 99));
    }

    private static void allOfTrees(SkyMargins x, List<Integer> all) {
        all.add(x.tree());
        all.add(x.families());
        all.add(x.chao());
        all.add(x.many(0, 1));
        all.add(x.next(0));
        all.add(x.next(1));
        for (int copy = 0; copy < x.count(0); copy++) {
            all.add(x.whose(copy));
            all.add(x.dates(copy, 0));
            all.add(x.dates(copy, 1));
            all.add(x.stops(copy, 0));
            all.add(x.may(copy, 0));
        }
    }

    /** The tape's bytes, the terms, the forms, the looks, the first image. */
    private static void allByChanging(SkyMargins x, List<Integer> all) {
        all.add(x.row(0));
        all.add(x.trimmed());
        for (int what = 0; what < 5; what++) {
            all.add(x.of(x.count(3) - 1, what));
        }
        for (int what = 0; what < 4; what++) {
            all.add(x.terms(what, 1));
        }
        for (int form = 0; form < 6; form++) {
            all.add(x.form(0, form, 0));
            all.add(x.form(1, form, 0));
            all.add(x.sample(0, form, 0));
            all.add(x.sample(7, form, 0));
        }
        for (int copy = 0; copy < 4; copy++) {
            all.add(x.look(copy, 0));
        }
        all.add(x.back(0));
        for (int what = 0; what < 8; what++) {
            all.add(x.count(what));
        }
    }

    /**
     * An object in which there is something of all: four copies, three stays, two hands, nine notes, two texts, the
     * first in use, an image 0, a world, a fault at 5, one trimmed, and the bytes 11, 12, 255, 13 on the tape.
     */
    static SkyMargins standing() {
        SkyMargins x = new SkyMargins();
        x.copy(1, 3);
        x.copy(1, 1);
        x.copy(2, 6);
        x.copy(7, 63);
        x.look(0, 1);
        x.stay(0, 5, 100, 120);
        x.stay(1, 5, 110, 130);
        x.stay(2, 31, 0, 400);
        x.hand(90, 115);
        x.hand(0, 400);
        x.form(0, 0, 8);
        x.form(1, 5, 9);
        x.sample(0, 0, 2);
        x.sample(7, 5, 1);
        x.note(0, 3, 7, 0, 0);
        x.note(0, 3, 0, -1, 1);
        x.note(1, 3, 7, 1, 0);
        x.note(2, 3, 7, -1, 0);
        x.note(2, 59, 99, 1, 0);
        x.note(3, 0, 0, -1, 2);
        x.note(3, 0, 0, 0, 3);
        x.note(3, 3, 1, -1, 0);
        Due.text(x, "weight 30 if place<9;late if wording>1;struck if place<3;copies 60;adds 40");
        Due.text(x, "late");
        x.use(0);
        x.terms(0, 4);
        x.image(0);
        x.run(5);
        Due.text(x, "late ?");
        Due.feed(x, 9, 9, 255, 60, 0, 255);
        x.row(1);
        Due.feed(x, 11, 12, 255, 13);
        return x;
    }

    /** As standing(), with so many copies. */
    static SkyMargins withCopies(int many) {
        SkyMargins x = standing();
        for (int copy = x.count(0); copy < many; copy++) {
            x.copy(copy % 8, 0);
        }
        return x;
    }

    static SkyMargins withStays(int many) {
        SkyMargins x = standing();
        for (int stay = x.count(1); stay < many; stay++) {
            x.stay(stay % 4, stay % 32, stay, 2 * stay);
        }
        return x;
    }

    static SkyMargins withHands(int many) {
        SkyMargins x = standing();
        for (int hand = x.count(2); hand < many; hand++) {
            x.hand(hand, 400 - hand);
        }
        return x;
    }

    /** As standing(), with so many notes: the new ones are written in copy 3 from place 4 on, by rows. */
    static SkyMargins withNotes(int many) {
        SkyMargins x = standing();
        x.end(0);
        int next = 0;
        while (x.count(3) < many) {
            int[] bytes = new int[3 * Math.min(130, many - x.count(3))];
            for (int i = 0; i < bytes.length; i += 3) {
                bytes[i] = 4 + next % 50;
                bytes[i + 1] = next / 50;
                bytes[i + 2] = 255;
                next++;
            }
            Due.feed(x, bytes);
            x.row(3);
        }
        Due.feed(x, 11, 12, 255, 13);
        return x;
    }

    /** As standing(), with so many texts, and the fault at 5 even where there is no room for one more. */
    static SkyMargins withTexts(int many) {
        SkyMargins x = standing();
        x.end(0);
        x.image(1);
        for (int text = x.count(4); text < many; text++) {
            Due.text(x, "late if wording>" + text);
        }
        x.image(0);
        x.back(1);
        Due.text(x, "late ?");
        x.back(0);
        Due.feed(x, 11, 12, 255, 13);
        return x;
    }
}
