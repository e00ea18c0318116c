import java.util.function.Supplier;
import java.util.function.ToLongFunction;

/**
 * Every refusal of every promise, at the edge and far beyond it, and which one is told of several. What is refused
 * changes nothing: each refused call is made on mirrors that hold much, and all that they hold is looked at behind it.
 */
public final class RefusalsTest {
    private static final int LEAST = Integer.MIN_VALUE;
    private static final int MOST = Integer.MAX_VALUE;
    private static final int UNKNOWN = WallMirror.UNKNOWN;
    private static final int BAD = WallMirror.BAD;
    private static final int LATE = WallMirror.LATE;
    private static final int FULL = WallMirror.FULL;

    /** No one of six, some of them such that a shift by them comes round to one. */
    private static final int[] NO_ONE_OF_SIX = {-1, 6, 7, 31, 32, 33, 64, -32, -64, LEAST, MOST};
    private static final int[] NO_ONE_OF_TWO = {-1, 2, 3, 5, 6, 32, LEAST, MOST};
    private static final int[] NO_ONE_OF_NOBODY = {-1, 0, 1, 5, 6, 32, LEAST, MOST};
    private static final int[] NO_MARK = {-1, 3, 4, 5, 17, LEAST, MOST};
    private static final int[] NO_TENTHS = {-1, 11, 12, 100, LEAST, MOST};
    private static final int[] NO_SLOT = {-1, 2, 3, 32, LEAST, MOST};

    public static void main(String[] args) {
        write();
        court();
        about();
        person();
        morning();
        plain();
        hunt();
        undo();
        judged();
        hear();
        worlds();
        answer();
        choosers();
        theDead();
        measuresAndNearest();
        reign();
        differs();
        rate();
        saying();
        believed();
        chance();
        hunted();
        slots();
        Due.end();
    }

    private static void refused(Supplier<WallMirror> made, String call, ToLongFunction<WallMirror> answer, int want) {
        Due.refused(made, call, answer, want);
    }

    private interface OfPerson {
        long answer(WallMirror x, int person);
    }

    /** UNKNOWN: there is no such PERSON, be there six, two (of six that were told), or nobody. */
    private static void unknown(String call, OfPerson asked) {
        for (int person : NO_ONE_OF_SIX) {
            refused(Made::rich, call + " of six for " + person, x -> asked.answer(x, person), UNKNOWN);
        }
        for (int person : NO_ONE_OF_TWO) {
            refused(Made::two, call + " of two for " + person, x -> asked.answer(x, person), UNKNOWN);
        }
        for (int person : NO_ONE_OF_NOBODY) {
            refused(Made::nobody, call + " of nobody for " + person, x -> asked.answer(x, person), UNKNOWN);
            refused(WallMirror::new, call + " of a new one for " + person, x -> asked.answer(x, person), UNKNOWN);
        }
    }

    // ---- the court

    /** BAD (no byte); FULL: there are 40. */
    private static void write() {
        for (int letter : new int[] {-1, 256, 256 + 'Q', 'Q' - 256, -128, 65536 + 'Q', LEAST, MOST}) {
            refused(WallMirror::new, "write(" + letter + ") as the first", x -> x.write(letter), BAD);
            refused(Made::rich, "write(" + letter + ")", x -> x.write(letter), BAD);
            refused(Made::fullText, "write(" + letter + ") when full", x -> x.write(letter), BAD);
        }
        for (int letter : new int[] {0, 'P', '1', 255}) {
            refused(Made::fullText, "write(" + letter + ") when full", x -> x.write(letter), FULL);
        }
    }

    /** LATE: a FAULT, be it at the first byte, at the last one, behind the sixth person, or only at the end. */
    private static void court() {
        String[] texts = {"", "q111", "Q", "Q11", "Q000", "Q000P1111", "Q1111", "Q111P", "Q111P111", "Q111P1113",
            "Q111P1111P", "Q111P1111P111", "Q111P1111P1113", "Q111P1111P1111P1111P1111P1111P1113",
            "Q111P1111P1111P1111P1111P1111P1111P", "Q111P1111P1111P1111P1111P1111P1111x",
            "Q111P1111P1111P1111P1111P1111P1111P1111"};
        for (String text : texts) {
            refused(() -> withText(Made.two(), text), "court() of '" + text + "'", WallMirror::court, LATE);
            refused(() -> withText(new WallMirror(), text), "court() of '" + text + "', new", WallMirror::court, LATE);
        }
        refused(() -> withText(Made.rich(), "Q111P1113"), "court() of a bad AGEING", WallMirror::court, LATE);
        refused(Made::nobody, "court() of a text cut short", WallMirror::court, LATE);
        refused(Made::fullText, "court() of 40 bytes", WallMirror::court, LATE);
    }

    private static WallMirror withText(WallMirror x, String text) {
        Due.write(x, text);
        return x;
    }

    /** BAD: what is 0 .. 9. */
    private static void about() {
        for (int what : new int[] {-1, 10, 11, 32, LEAST, MOST}) {
            refused(Made::rich, "about(" + what + ")", x -> x.about(what), BAD);
            refused(WallMirror::new, "about(" + what + ") of a new one", x -> x.about(what), BAD);
        }
    }

    /** UNKNOWN; BAD: what is 0 .. 6. UNKNOWN is told first. */
    private static void person() {
        for (int what = -1; what <= 7; what++) {
            int asked = what;
            unknown("person(.., " + what + ")", (x, person) -> x.person(person, asked));
        }
        for (int what : new int[] {-1, 7, 8, 18, LEAST, MOST}) {
            for (int person = 0; person < 6; person++) {
                int one = person;
                refused(Made::rich, "person(" + person + ", " + what + ")", x -> x.person(one, what), BAD);
            }
        }
    }

    // ---- acts

    /** LATE: there is nobody. */
    private static void morning() {
        refused(WallMirror::new, "morning() of a new one", WallMirror::morning, LATE);
        refused(Made::nobody, "morning() of nobody", WallMirror::morning, LATE);
    }

    /** UNKNOWN: person, mark; LATE: it is dead, or the MARK is 0. UNKNOWN is told first. */
    private static void plain() {
        for (int mark : new int[] {-1, 0, 2, 3}) {
            unknown("plain(.., " + mark + ")", (x, person) -> x.plain(person, mark));
        }
        for (int mark : NO_MARK) {
            for (int person = 0; person < 6; person++) {
                int one = person;
                refused(Made::rich, "plain(" + person + ", " + mark + ")", x -> x.plain(one, mark), UNKNOWN);
            }
        }
        for (int mark = 0; mark < 3; mark++) {
            int asked = mark;
            refused(Made::rich, "plain(4, " + mark + ") of a dead one", x -> x.plain(4, asked), LATE);
        }
        refused(Made::rich, "plain(1, 2) of a MARK told as 0", x -> x.plain(1, 2), LATE);
        refused(Made::rich, "plain(2, 2) of a MARK told as 0", x -> x.plain(2, 2), LATE);
        refused(RefusalsTest::queenPlain, "plain(0, 1) of a MARK that has become 0", x -> x.plain(0, 1), LATE);
        refused(RefusalsTest::queenPlain, "plain(0, 3) of her", x -> x.plain(0, 3), UNKNOWN);
        refused(RefusalsTest::queenPlain, "plain(1, 1) of a dead one's MARK of 0", x -> x.plain(1, 1), LATE);
    }

    private static WallMirror queenPlain() {
        WallMirror x = Due.mirror("Q111P1110P3030");
        x.plain(0, 1);
        x.hunt(1, false);
        return x;
    }

    /** UNKNOWN; BAD: THE QUEEN; LATE: it is dead, or REPORTED. If there is nobody, there is no queen. */
    private static void hunt() {
        for (boolean lies : new boolean[] {false, true}) {
            unknown("hunt(.., " + lies + ")", (x, person) -> x.hunt(person, lies));
            refused(Made::rich, "hunt(0, " + lies + ")", x -> x.hunt(0, lies), BAD);
            refused(() -> Due.mirror("Q111P1110"), "hunt(0, " + lies + ") of one", x -> x.hunt(0, lies), BAD);
            refused(Made::rich, "hunt(4, " + lies + ") of a dead one", x -> x.hunt(4, lies), LATE);
            refused(Made::rich, "hunt(3, " + lies + ") of one REPORTED", x -> x.hunt(3, lies), LATE);
            refused(Made::rich, "hunt(5, " + lies + ") of one REPORTED", x -> x.hunt(5, lies), LATE);
        }
    }

    /** LATE: there is none. */
    private static void undo() {
        refused(WallMirror::new, "undo() of a new one", WallMirror::undo, LATE);
        refused(() -> Due.mirror("Q111P1110P2220"), "undo() of a new court", WallMirror::undo, LATE);
        refused(RefusalsTest::allUndone, "undo() when all are undone", WallMirror::undo, LATE);
        refused(RefusalsTest::goneOnFrom, "undo() when gone on from a SLOT", WallMirror::undo, LATE);
        refused(RefusalsTest::courtAnew, "undo() when the court is made anew", WallMirror::undo, LATE);
    }

    private static WallMirror allUndone() {
        WallMirror x = Made.rich();
        for (int i = 0; i < 14; i++) {
            x.undo();
        }
        return x;
    }

    private static WallMirror goneOnFrom() {
        WallMirror x = Made.rich();
        x.again(1);
        return x;
    }

    private static WallMirror courtAnew() {
        WallMirror x = Made.rich();
        x.court();
        return x;
    }

    // ---- what may be

    /** BAD: n (1 .. 8), row (0 or more, n figures at most). */
    private static void judged() {
        for (int n : new int[] {0, -1, 9, 10, LEAST, MOST}) {
            for (int row : new int[] {0, 1, -1, 999999999, LEAST, MOST}) {
                badRow(n, row);
            }
        }
        int beyond = 1;
        for (int n = 1; n <= 8; n++) {
            beyond *= 10;
            badRow(n, beyond);
            badRow(n, beyond + 1);
            badRow(n, MOST);
            badRow(n, -1);
            badRow(n, -beyond);
            badRow(n, LEAST);
        }
    }

    private static void badRow(int n, int row) {
        String call = "judged(" + n + ", " + row + ")";
        refused(Made::two, call, x -> x.judged(n, row), BAD);
        refused(WallMirror::new, call + " of a new one", x -> x.judged(n, row), BAD);
    }

    /** UNKNOWN; FULL: 6. UNKNOWN is told first. */
    private static void hear() {
        for (boolean is : new boolean[] {false, true}) {
            unknown("hear(.., " + is + ")", (x, person) -> x.hear(person, is));
            for (int person = 0; person < 6; person++) {
                int one = person;
                refused(Made::rich, "hear(" + person + ", " + is + ")", x -> x.hear(one, is), FULL);
            }
            refused(Made::two, "hear(1, " + is + ")", x -> x.hear(1, is), FULL);
        }
    }

    /** BAD: what is 0 or 1, also if there is no set. */
    private static void worlds() {
        for (int what : new int[] {-1, 2, 3, 32, LEAST, MOST}) {
            refused(Made::rich, "worlds(" + what + ")", x -> x.worlds(what), BAD);
            refused(WallMirror::new, "worlds(" + what + ") of a new one", x -> x.worlds(what), BAD);
            refused(RefusalsTest::noSet, "worlds(" + what + ") of no set", x -> x.worlds(what), BAD);
        }
    }

    private static WallMirror noSet() {
        WallMirror x = Due.mirror("Q111P2220P1110");
        x.hear(1, true);
        return x;
    }

    /** BAD: k (0 .. 6). */
    private static void answer() {
        for (int k : new int[] {-1, 7, 8, 32, LEAST, MOST}) {
            for (boolean useless : new boolean[] {false, true}) {
                String call = "answer(" + k + ", " + useless + ")";
                refused(Made::rich, call, x -> x.answer(k, useless), BAD);
                refused(WallMirror::new, call + " of a new one", x -> x.answer(k, useless), BAD);
            }
        }
    }

    // ---- chosen, measured

    /** UNKNOWN; BAD: THE QUEEN; LATE: it is dead. If there is nobody, there is no queen. */
    private static void choosers() {
        unknown("chosen(..)", WallMirror::chosen);
        unknown("chosenWorth(..)", WallMirror::chosenWorth);
        refused(Made::rich, "chosen(0)", x -> x.chosen(0), BAD);
        refused(Made::rich, "chosenWorth(0)", x -> x.chosenWorth(0), BAD);
        refused(() -> Due.mirror("Q111P1110"), "chosen(0) of one", x -> x.chosen(0), BAD);
        refused(() -> Due.mirror("Q111P1110"), "chosenWorth(0) of one", x -> x.chosenWorth(0), BAD);
    }

    /** LATE: it is dead; one REPORTED that is alive is not refused. */
    private static void theDead() {
        refused(Made::rich, "chosen(4)", x -> x.chosen(4), LATE);
        refused(Made::rich, "chosenWorth(4)", x -> x.chosenWorth(4), LATE);
        refused(Made::rich, "measures(4)", x -> x.measures(4), LATE);
        refused(Made::rich, "nearest(4)", x -> x.nearest(4), LATE);
        refused(Made::two, "chosen(1)", x -> x.chosen(1), LATE);
        refused(Made::two, "chosenWorth(1)", x -> x.chosenWorth(1), LATE);
        refused(Made::two, "measures(1)", x -> x.measures(1), LATE);
        refused(Made::two, "nearest(1)", x -> x.nearest(1), LATE);
        for (boolean upper : new boolean[] {false, true}) {
            refused(Made::rich, "saying(4, 5)", x -> x.saying(4, 5, upper), LATE);
            refused(Made::rich, "believed(4, 5, 6)", x -> x.believed(4, 5, 6, upper), LATE);
            refused(Made::two, "saying(1, 0)", x -> x.saying(1, 0, upper), LATE);
            refused(Made::two, "believed(1, 0, 10)", x -> x.believed(1, 0, 10, upper), LATE);
        }
    }

    private static void measuresAndNearest() {
        unknown("measures(..)", WallMirror::measures);
        unknown("nearest(..)", WallMirror::nearest);
    }

    /** LATE: there is nobody. */
    private static void reign() {
        for (boolean mornings : new boolean[] {false, true}) {
            refused(WallMirror::new, "reign(" + mornings + ") of a new one", x -> x.reign(mornings), LATE);
            refused(Made::nobody, "reign(" + mornings + ") of nobody", x -> x.reign(mornings), LATE);
        }
    }

    /** BAD: weights (three figures, not all 0). */
    private static void differs() {
        for (int weights : new int[] {0, -1, -111, 1000, 1001, 9999, LEAST, MOST}) {
            refused(Made::rich, "differs(" + weights + ")", x -> x.differs(weights), BAD);
            refused(WallMirror::new, "differs(" + weights + ") of a new one", x -> x.differs(weights), BAD);
        }
    }

    /** UNKNOWN: both (either of them, too); BAD: both are one. Two that are one, but not there, are UNKNOWN. */
    private static void rate() {
        for (boolean upper : new boolean[] {false, true}) {
            unknown("rate(.., 0)", (x, person) -> x.rate(person, 0, upper));
            unknown("rate(0, ..)", (x, person) -> x.rate(0, person, upper));
            unknown("rate(.., ..)", (x, person) -> x.rate(person, person, upper));
            for (int person = 0; person < 6; person++) {
                int one = person;
                refused(Made::rich, "rate(" + person + ", " + person + ")", x -> x.rate(one, one, upper), BAD);
            }
        }
    }

    // ---- sayings, chances

    /** UNKNOWN; BAD: x (0 .. 10); LATE: it is dead. What is told first is told of several. */
    private static void saying() {
        for (boolean upper : new boolean[] {false, true}) {
            unknown("saying(.., 5)", (x, person) -> x.saying(person, 5, upper));
            unknown("saying(.., 11)", (x, person) -> x.saying(person, 11, upper));
            for (int tenths : NO_TENTHS) {
                refused(Made::rich, "saying(1, " + tenths + ")", x -> x.saying(1, tenths, upper), BAD);
                refused(Made::rich, "saying(4, " + tenths + ")", x -> x.saying(4, tenths, upper), BAD);
            }
        }
    }

    /** UNKNOWN; BAD: x, y (0 .. 10 each); LATE: it is dead. What is told first is told of several. */
    private static void believed() {
        for (boolean upper : new boolean[] {false, true}) {
            unknown("believed(.., 5, 6)", (x, person) -> x.believed(person, 5, 6, upper));
            unknown("believed(.., 11, 6)", (x, person) -> x.believed(person, 11, 6, upper));
            unknown("believed(.., 5, -1)", (x, person) -> x.believed(person, 5, -1, upper));
            for (int tenths : NO_TENTHS) {
                for (int person : new int[] {0, 1, 4}) {
                    String call = "believed(" + person + ", ";
                    refused(Made::rich, call + tenths + ", 5)", x -> x.believed(person, tenths, 5, upper), BAD);
                    refused(Made::rich, call + "5, " + tenths + ")", x -> x.believed(person, 5, tenths, upper), BAD);
                    refused(Made::rich, call + tenths + " twice)", x -> x.believed(person, tenths, tenths, upper), BAD);
                }
            }
        }
    }

    /** BAD: x (0 .. 10); LATE: there is nobody. BAD is told first. */
    private static void chance() {
        for (boolean upper : new boolean[] {false, true}) {
            for (int tenths : NO_TENTHS) {
                refused(Made::rich, "chance(" + tenths + ")", x -> x.chance(tenths, upper), BAD);
                refused(Made::nobody, "chance(" + tenths + ") of nobody", x -> x.chance(tenths, upper), BAD);
            }
            for (int tenths : new int[] {0, 5, 10}) {
                refused(WallMirror::new, "chance(" + tenths + ") of a new one", x -> x.chance(tenths, upper), LATE);
                refused(Made::nobody, "chance(" + tenths + ") of nobody", x -> x.chance(tenths, upper), LATE);
            }
        }
    }

    /** BAD: m (1 .. 30); LATE: there is nobody. BAD is told first; THE SEED stays. */
    private static void hunted() {
        for (int m : new int[] {0, -1, 31, 32, 64, LEAST, MOST}) {
            refused(Made::rich, "hunted(" + m + ")", x -> x.hunted(m), BAD);
            refused(Made::nobody, "hunted(" + m + ") of nobody", x -> x.hunted(m), BAD);
        }
        for (int m : new int[] {1, 30}) {
            refused(WallMirror::new, "hunted(" + m + ") of a new one", x -> x.hunted(m), LATE);
            refused(Made::nobody, "hunted(" + m + ") of nobody", x -> x.hunted(m), LATE);
        }
    }

    // ---- slots

    /** UNKNOWN (there is no such SLOT); LATE: none were kept. UNKNOWN is told first. */
    private static void slots() {
        for (int slot : NO_SLOT) {
            refused(Made::rich, "keep(" + slot + ")", x -> x.keep(slot), UNKNOWN);
            refused(Made::rich, "again(" + slot + ")", x -> x.again(slot), UNKNOWN);
            refused(WallMirror::new, "keep(" + slot + ") of a new one", x -> x.keep(slot), UNKNOWN);
            refused(WallMirror::new, "again(" + slot + ") of a new one", x -> x.again(slot), UNKNOWN);
        }
        refused(Made::two, "again(0) when only 1 was kept", x -> x.again(0), LATE);
        refused(Made::nobody, "again(1) when only 0 was kept", x -> x.again(1), LATE);
        refused(RefusalsTest::courtAnew, "again(0) when the court is made anew", x -> x.again(0), LATE);
        refused(RefusalsTest::courtAnew, "again(1) when the court is made anew", x -> x.again(1), LATE);
        refused(WallMirror::new, "again(0) of a new one", x -> x.again(0), LATE);
        refused(WallMirror::new, "again(1) of a new one", x -> x.again(1), LATE);
    }
}
