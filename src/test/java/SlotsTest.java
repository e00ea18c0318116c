/** Promises 31 and 32: what is kept in slots and gone on from. */
public final class SlotsTest {
    public static void main(String[] args) {
        keepAndAgain();
        keptAnew();
        whatIsNotKept();
        refused();
        nobody();
        Due.end();
    }

    private static void keepAndAgain() {
        WallMirror x = Due.mirror("Q321P5551P6402P2700P3390");
        x.morning();
        x.year();
        x.hunt(3, false);
        x.hunt(2, true);
        x.plain(0, 1);
        Due.due("keep(0)", x.keep(0), 3);
        Due.due("acts stay", x.about(7), 5);
        x.undo();
        String kept = Due.seen(x);
        x.keep(1);
        x.morning();
        x.morning();
        x.year();
        x.plain(0, 0);
        x.hunt(1, false);
        Due.due("again(1)", x.again(1), 3);
        Due.due("no acts", x.about(7), 0);
        Due.due("what is seen but for acts", withoutActs(Due.seen(x)), withoutActs(kept));
        Due.refused(x, "undo()", x::undo, WallMirror.LATE);
        Due.due("again(0)", x.again(0), 3);
        Due.due("the plain mark of slot 0", x.person(0, 1), 3);
        Due.due("mornings", x.about(4), 1);
        Due.due("years", x.about(5), 1);
        Due.due("weights", x.about(6), 221);
        Due.due("alive", x.about(1), 7);
        Due.due("reported", x.about(2), 12);
        Due.due("hunt(1, false)", x.hunt(1, false), 2);
        Due.due("again(0) once more", x.again(0), 3);
        Due.due("alive", x.about(1), 7);
    }

    /** What is seen tells the ACTS as its eighth word. */
    private static String withoutActs(String seen) {
        String[] words = seen.split(" ");
        words[7] = "";
        return String.join(" ", words);
    }

    private static void keptAnew() {
        WallMirror x = Due.mirror("Q321P5551P6402");
        x.keep(0);
        x.year();
        Due.due("keep(0) anew", x.keep(0), 2);
        x.year();
        x.again(0);
        Due.due("years", x.about(5), 1);
        Due.refused(x, "again(1)", () -> x.again(1), WallMirror.LATE);
    }

    private static void whatIsNotKept() {
        WallMirror x = Due.mirror("Q321P5551P6402");
        x.hear(0, true);
        x.seed(5);
        x.keep(1);
        x.hear(1, true);
        x.seed(6);
        x.write('P');
        x.again(1);
        Due.due("heard stays", x.about(8), 2);
        Due.due("the text stays", x.about(9), 15);
        Due.due("the seed stays", x.seed(0), 6);
    }

    private static void refused() {
        WallMirror x = Due.mirror("Q321P5551P6402");
        x.year();
        Due.refused(x, "keep(-1)", () -> x.keep(-1), WallMirror.UNKNOWN);
        Due.refused(x, "keep(2)", () -> x.keep(2), WallMirror.UNKNOWN);
        Due.refused(x, "again(-1)", () -> x.again(-1), WallMirror.UNKNOWN);
        Due.refused(x, "again(2)", () -> x.again(2), WallMirror.UNKNOWN);
        Due.refused(x, "again(0)", () -> x.again(0), WallMirror.LATE);
        Due.refused(x, "again(1)", () -> x.again(1), WallMirror.LATE);
        Due.due("undo()", x.undo(), 0);
        Due.due("years", x.about(5), 0);
    }

    private static void nobody() {
        WallMirror x = new WallMirror();
        x.year();
        Due.due("keep(0) of nobody", x.keep(0), 0);
        x.year();
        Due.due("again(0) of nobody", x.again(0), 0);
        Due.due("years", x.about(5), 1);
        Due.due("acts", x.about(7), 0);
    }
}
