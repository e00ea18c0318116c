/** Promises 8 to 12: mornings, years, plain ones, hunts, and all undone. */
public final class ActsTest {
    public static void main(String[] args) {
        mornings();
        fears();
        morningRefused();
        year();
        plain();
        hunt();
        undo();
        undoOfAFullRow();
        Due.end();
    }

    private static void mornings() {
        WallMirror x = Due.mirror("Q321P5551P6400P2700P3391");
        int[] fairest = {1, 1, 3, 4, 3, 4, 4};
        int[] weights = {221, 220, 120, 110, 10, 10, 10};
        for (int i = 0; i < fairest.length; i++) {
            Due.due("morning() " + i, x.morning(), fairest[i]);
            Due.due("weights behind morning " + i, x.about(6), weights[i]);
            Due.due("mornings", x.about(4), i + 1);
            Due.due("acts", x.about(7), i + 1);
        }
        Due.due("no year went by", x.about(5), 0);
        Due.marks(x, 0, 5, 5, 5);
    }

    private static void fears() {
        weightsBehind("Q111P0000", 1, 111);
        weightsBehind("Q111P5550P1110", 1, 111);
        weightsBehind("Q111P5550P5550", 3, 111);
        weightsBehind("Q111P0000P1000P0010", 6, 11);
        weightsBehind("Q111P0000P0010P1000", 6, 110);
        weightsBehind("Q123P0000P0440", 2, 113);
        weightsBehind("Q555P1110P2340", 2, 554);
        weightsBehind("Q555P1110P4320", 2, 455);
        weightsBehind("Q011P0000P9110", 2, 11);
        weightsBehind("Q001P0000P0010", 2, 1);
        weightsBehind("Q010P0000P0100", 2, 10);
        weightsBehind("Q100P0000P1000", 2, 100);
        weightsBehind("Q002P0000P0010", 2, 1);
        weightsBehind("Q200P9990P9000P0990", 3, 200);
        WallMirror x = Due.mirror("Q111P0000P0900P9990");
        x.hunt(2, false);
        Due.due("morning() without a dead one", x.morning(), 2);
        Due.due("a dead one is not feared", x.about(6), 101);
        WallMirror y = Due.mirror("Q111P0000P0900P9990");
        y.hunt(2, true);
        Due.due("morning() with one reported", y.morning(), 4);
        Due.due("one alive is feared though reported", y.about(6), 11);
    }

    private static void weightsBehind(String text, int fairest, int weights) {
        WallMirror x = Due.mirror(text);
        Due.due("morning() of " + text, x.morning(), fairest);
        Due.due("weights behind it", x.about(6), weights);
        Due.due("acts behind it", x.about(7), 1);
        Due.due("mornings behind it", x.about(4), 1);
    }

    private static void morningRefused() {
        WallMirror x = new WallMirror();
        Due.refused(x, "morning() of a new one", x::morning, WallMirror.LATE);
        WallMirror y = Due.mirror("Q123");
        Due.refused(y, "morning() of nobody", y::morning, WallMirror.LATE);
    }

    private static void year() {
        WallMirror x = Due.mirror("Q111P5211P1122P9990P8882");
        x.hunt(3, false);
        Due.due("year()", x.year(), 1);
        Due.marks(x, 0, 4, 1, 0);
        Due.marks(x, 1, 0, 0, 0);
        Due.marks(x, 2, 9, 9, 9);
        Due.marks(x, 3, 8, 8, 8);
        Due.due("year()", x.year(), 2);
        Due.marks(x, 0, 3, 0, 0);
        Due.marks(x, 1, 0, 0, 0);
        Due.due("years", x.about(5), 2);
        Due.due("acts", x.about(7), 3);
        Due.due("no morning was", x.about(4), 0);
        Due.due("weights stay", x.about(6), 111);
        Due.due("year() of nobody", new WallMirror().year(), 1);
    }

    private static void plain() {
        WallMirror x = Due.mirror("Q111P0120P3330P1110");
        x.hunt(2, false);
        Due.due("plain(0, 2)", x.plain(0, 2), 1);
        Due.due("plain(0, 1)", x.plain(0, 1), 0);
        Due.due("plain(1, 0)", x.plain(1, 0), 2);
        Due.marks(x, 0, 0, 0, 1);
        Due.marks(x, 1, 2, 3, 3);
        Due.due("acts", x.about(7), 4);
        WallMirror y = Due.mirror("Q111P0120P3330");
        y.hunt(1, true);
        Due.due("plain(1, 2) of one reported", y.plain(1, 2), 2);
    }

    private static void hunt() {
        WallMirror x = Due.mirror("Q111P0120P3330P1110P2220");
        Due.due("hunt(1, true)", x.hunt(1, true), 4);
        Due.due("hunt(2, false)", x.hunt(2, false), 3);
        Due.due("alive", x.about(1), 11);
        Due.due("reported", x.about(2), 6);
        Due.due("acts", x.about(7), 2);
        Due.refused(x, "hunt(-1, false)", () -> x.hunt(-1, false), WallMirror.UNKNOWN);
        Due.refused(x, "hunt(4, false)", () -> x.hunt(4, false), WallMirror.UNKNOWN);
        Due.refused(x, "hunt(0, false)", () -> x.hunt(0, false), WallMirror.BAD);
        Due.refused(x, "hunt(1, false) of one reported", () -> x.hunt(1, false), WallMirror.LATE);
        Due.refused(x, "hunt(2, true) of a dead one", () -> x.hunt(2, true), WallMirror.LATE);
        Due.due("hunt(3, false)", x.hunt(3, false), 2);
        WallMirror y = new WallMirror();
        Due.refused(y, "hunt(0, true) of nobody", () -> y.hunt(0, true), WallMirror.UNKNOWN);
    }

    private static void undo() {
        WallMirror x = Due.mirror("Q321P5551P6402P2700");
        String first = Due.seen(x);
        x.morning();
        String second = Due.seen(x);
        x.year();
        String third = Due.seen(x);
        x.plain(1, 0);
        String fourth = Due.seen(x);
        x.hunt(1, true);
        String fifth = Due.seen(x);
        x.hunt(2, false);
        Due.due("undo() of a hunt", x.undo(), 4);
        Due.due("what is seen", Due.seen(x), fifth);
        Due.due("undo() of a lie", x.undo(), 3);
        Due.due("what is seen", Due.seen(x), fourth);
        Due.due("undo() of plain", x.undo(), 2);
        Due.due("what is seen", Due.seen(x), third);
        Due.due("undo() of a year", x.undo(), 1);
        Due.due("what is seen", Due.seen(x), second);
        Due.due("undo() of a morning", x.undo(), 0);
        Due.due("what is seen", Due.seen(x), first);
        Due.refused(x, "undo() of nothing", x::undo, WallMirror.LATE);
    }

    private static void undoOfAFullRow() {
        WallMirror x = Due.mirror("Q321P9990P9990");
        for (int i = 1; i <= 13; i++) {
            x.year();
        }
        Due.due("acts", x.about(7), 13);
        x.plain(0, 0);
        Due.due("acts", x.about(7), 14);
        x.plain(0, 1);
        x.plain(0, 2);
        Due.due("acts of a full row", x.about(7), 14);
        for (int left = 13; left >= 0; left--) {
            Due.due("undo()", x.undo(), left);
        }
        Due.refused(x, "undo() of what is forgotten", x::undo, WallMirror.LATE);
        Due.due("two years are not undone", x.about(5), 2);
        Due.marks(x, 0, 9, 9, 9);
        Due.due("year()", x.year(), 3);
        Due.due("undo()", x.undo(), 0);
        Due.due("years", x.about(5), 2);
        Due.refused(x, "undo() of nothing", x::undo, WallMirror.LATE);
    }
}
