/** Promises 13 to 18: mornings judged, what was heard, worlds, what to ask, useless answers. */
public final class MayBeTest {
    public static void main(String[] args) {
        judged();
        hear();
        unhear();
        worlds();
        worldsAsTheyAre();
        worldsOfOthers();
        toAsk();
        answer();
        Due.end();
    }

    private static void judged() {
        WallMirror x = Due.mirror("Q111P3330P4440P4440P1110P9000P0900");
        String before = Due.seen(x);
        Due.due("judged(1, 1)", x.judged(1, 1), WallMirror.NONE);
        Due.due("judged(1, 2)", x.judged(1, 2), WallMirror.NONE);
        Due.due("judged(1, 0)", x.judged(1, 0), 0);
        Due.due("judged(1, 9)", x.judged(1, 9), 0);
        Due.due("judged(3, 151)", x.judged(3, 151), WallMirror.NONE);
        Due.due("judged(3, 252)", x.judged(3, 252), WallMirror.NONE);
        Due.due("judged(3, 111)", x.judged(3, 111), 1);
        Due.due("judged(3, 155)", x.judged(3, 155), 2);
        Due.due("judged(3, 51)", x.judged(3, 51), 0);
        Due.due("judged(3, 351)", x.judged(3, 351), 0);
        Due.due("judged(2, 15)", x.judged(2, 15), WallMirror.NONE);
        Due.due("judged(8, 15111222)", x.judged(8, 15111222), WallMirror.NONE);
        Due.due("judged(8, 15111223)", x.judged(8, 15111223), 7);
        Due.due("judged(8, 99999999)", x.judged(8, 99999999), 0);
        Due.due("what is seen", Due.seen(x), before);
        x.hunt(2, false);
        Due.due("judged(1, 2) of a dead one", x.judged(1, 2), 0);
        Due.due("judged(1, 1)", x.judged(1, 1), WallMirror.NONE);
        WallMirror y = Due.mirror("Q210P9991P8880P7000");
        Due.due("judged(3, 0)", y.judged(3, 0), WallMirror.NONE);
        Due.due("judged(2, 1)", y.judged(2, 1), 1);
        Due.due("judged(3, 5)", y.judged(3, 5), 2);
        Due.due("judged(1, 0) of nobody", new WallMirror().judged(1, 0), 0);
        Due.due("judged(8, 0) of nobody", new WallMirror().judged(8, 0), 0);
    }

    private static void hear() {
        WallMirror x = Due.mirror("Q111P5550P6660");
        Due.refused(x, "hear(-1, true)", () -> x.hear(-1, true), WallMirror.UNKNOWN);
        Due.refused(x, "hear(2, true)", () -> x.hear(2, true), WallMirror.UNKNOWN);
        for (int count = 1; count <= 6; count++) {
            Due.due("hear(1, true)", x.hear(1, true), count);
        }
        Due.refused(x, "hear(1, true) when full", () -> x.hear(1, true), WallMirror.FULL);
        Due.refused(x, "hear(0, false) when full", () -> x.hear(0, false), WallMirror.FULL);
        Due.refused(x, "hear(2, true) when full", () -> x.hear(2, true), WallMirror.UNKNOWN);
        Due.due("heard", x.about(8), 6);
        Due.due("it is no act", x.undo(), WallMirror.LATE);
    }

    private static void unhear() {
        WallMirror x = Due.mirror("Q111P5550P6660");
        x.hear(0, true);
        x.hear(0, true);
        Due.due("worlds(0)", x.worlds(0), 0);
        Due.due("unhear()", x.unhear(), 2);
        Due.due("heard", x.about(8), 0);
        Due.due("worlds(0)", x.worlds(0), 1);
        Due.due("unhear()", x.unhear(), 0);
        Due.due("hear(1, true)", x.hear(1, true), 1);
    }

    private static void worlds() {
        WallMirror x = Due.mirror("Q111P5550P6660P7770P8880P1110");
        Due.due("worlds(0), none reported", x.worlds(0), 1);
        Due.due("worlds(1), none reported", x.worlds(1), 31);
        x.hunt(1, true);
        x.hunt(2, false);
        x.hunt(3, true);
        Due.due("worlds(0)", x.worlds(0), 8);
        Due.due("worlds(1)", x.worlds(1), 17);
        x.hear(2, true);
        Due.due("worlds(0) with 2 fairest", x.worlds(0), 2);
        Due.due("worlds(1) with 2 fairest", x.worlds(1), 21);
        x.hear(0, false);
        Due.due("worlds(0) with the queen not fairest, too", x.worlds(0), 2);
        x.unhear();
        x.hear(3, false);
        Due.due("worlds(0) with 3 not fairest", x.worlds(0), 4);
        Due.due("worlds(1) with 3 not fairest", x.worlds(1), 17);
        x.unhear();
        x.hear(0, false);
        Due.due("worlds(0) with the queen not fairest", x.worlds(0), 7);
        Due.due("worlds(1) with the queen not fairest", x.worlds(1), 17);
        x.hear(0, true);
        Due.due("worlds(0) of none", x.worlds(0), 0);
        Due.due("worlds(1) of none", x.worlds(1), WallMirror.NONE);
        Due.refused(x, "worlds(2)", () -> x.worlds(2), WallMirror.BAD);
        Due.refused(x, "worlds(-1)", () -> x.worlds(-1), WallMirror.BAD);
        Due.due("worlds(0) of nobody", new WallMirror().worlds(0), 1);
        Due.due("worlds(1) of nobody", new WallMirror().worlds(1), 0);
    }

    private static void worldsAsTheyAre() {
        WallMirror x = Due.mirror("Q111P5550P5562P4440");
        x.hunt(1, true);
        x.hear(1, true);
        Due.due("worlds(1) now", x.worlds(1), 7);
        x.plain(1, 2);
        Due.due("worlds(1) when 1 is one of two", x.worlds(1), 7);
        x.year();
        Due.due("worlds(0) a year on", x.worlds(0), 0);
        x.undo();
        x.undo();
        Due.due("worlds(0) undone", x.worlds(0), 1);
        x.unhear();
        x.hear(0, true);
        Due.due("worlds(1) with the queen fairest", x.worlds(1), 5);
        Due.due("worlds(0) with the queen fairest", x.worlds(0), 1);
    }

    private static void worldsOfOthers() {
        WallMirror x = Due.mirror("Q111P5550P6660P7770");
        x.hear(2, false);
        x.hear(1, true);
        Due.due("worlds(0)", x.worlds(0), 0);
        Due.write(x, "Q111P5550P6660");
        x.court();
        Due.due("worlds(0) of two", x.worlds(0), 1);
        Due.due("worlds(1) of two", x.worlds(1), 3);
        Due.write(x, "Q111P5550");
        x.court();
        Due.due("worlds(0) of one", x.worlds(0), 1);
        Due.write(x, "Q111P5550P6660P7770");
        x.court();
        Due.due("worlds(0) of three again", x.worlds(0), 0);
        x.hunt(2, false);
        Due.due("worlds(0) with the third reported", x.worlds(0), 1);
        Due.due("worlds(1) with the third reported", x.worlds(1), 3);
    }

    private static void toAsk() {
        WallMirror x = Due.mirror("Q111P5550P9990P6660P1110");
        Due.due("toAsk(), none reported", x.toAsk(), WallMirror.NONE);
        x.hunt(2, true);
        Due.due("toAsk(), one reported", x.toAsk(), 2);
        x.hunt(1, false);
        Due.due("toAsk(), of like ones", x.toAsk(), 1);
        x.hear(1, false);
        Due.due("toAsk(), 1 is dead", x.toAsk(), 2);
        x.unhear();
        x.hear(1, true);
        Due.due("toAsk(), 1 is alive", x.toAsk(), 2);
        x.hear(2, false);
        Due.due("toAsk(), that says nothing more", x.toAsk(), 2);
        x.unhear();
        x.hear(2, true);
        Due.due("toAsk(), all is known", x.toAsk(), 1);
        x.hear(2, false);
        Due.due("toAsk(), there is no set", x.toAsk(), WallMirror.NONE);
        Due.due("toAsk() of nobody", new WallMirror().toAsk(), WallMirror.NONE);
        // 1 or 3 is alive, and of 2 nothing is told
        WallMirror y = Due.mirror("Q111P5550P6660P1110P7770");
        y.hunt(1, true);
        y.hunt(3, true);
        y.hear(0, false);
        Due.due("worlds(0)", y.worlds(0), 3);
        Due.due("toAsk(), 1 of 3 each", y.toAsk(), 1);
        y.hunt(2, true);
        Due.due("worlds(0)", y.worlds(0), 6);
        Due.due("toAsk(), 3 of 6 ahead of 2 of 6", y.toAsk(), 2);
    }

    private static void answer() {
        WallMirror x = Due.mirror("Q111P5550P5550P1110P2220");
        int[] count = {0, 0, 1, 2, 1, 0, 0};
        int[] widest = {-9, -9, 3, 11, 15, -9, -9};
        for (int k = 0; k <= 6; k++) {
            Due.due("answer(" + k + ", false)", x.answer(k, false), count[k]);
            Due.due("answer(" + k + ", true)", x.answer(k, true), widest[k]);
        }
        x.hunt(3, false);
        Due.due("answer(3, false) without a dead one", x.answer(3, false), 1);
        Due.due("answer(3, true) without a dead one", x.answer(3, true), 7);
        Due.due("answer(4, false) without a dead one", x.answer(4, false), 0);
        WallMirror six = Due.mirror("Q111P9990P1110P1110P1110P1110P1110");
        Due.due("answer(3, false) of six", six.answer(3, false), 10);
        Due.due("answer(3, true) of six", six.answer(3, true), 49);
        Due.due("answer(1, true) of six", six.answer(1, true), 1);
        Due.due("answer(6, true) of six", six.answer(6, true), 63);
        Due.due("answer(6, false) of six", six.answer(6, false), 1);
        Due.due("answer(0, false) of six", six.answer(0, false), 0);
        WallMirror nobody = new WallMirror();
        Due.due("answer(0, false) of nobody", nobody.answer(0, false), 1);
        Due.due("answer(0, true) of nobody", nobody.answer(0, true), 0);
        Due.due("answer(1, false) of nobody", nobody.answer(1, false), 0);
        Due.due("answer(1, true) of nobody", nobody.answer(1, true), WallMirror.NONE);
    }
}
