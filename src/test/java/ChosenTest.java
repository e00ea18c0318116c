/** Promises 19 to 25: how plain rivals choose to be, measures, reign, two glasses, rates. */
public final class ChosenTest {
    public static void main(String[] args) {
        chosen();
        measures();
        nearest();
        reign();
        differs();
        rate();
        Due.end();
    }

    /** Choices and ends of the people 1, 2, .. that are alive. */
    private static void choices(String told, WallMirror x, int[] choices, int[] ends) {
        String before = Due.seen(x);
        for (int i = 0; i < choices.length; i++) {
            Due.due(told + ": chosen(" + (i + 1) + ")", x.chosen(i + 1), choices[i]);
            Due.due(told + ": chosenWorth(" + (i + 1) + ")", x.chosenWorth(i + 1), ends[i]);
        }
        Due.due(told + ": what is seen", Due.seen(x), before);
    }

    private static void chosen() {
        choices("never fairest", Due.mirror("Q100P9000P7000"), new int[] {0}, new int[] {7});
        choices("fairest by all choices", Due.mirror("Q100P5000P7000"), new int[] {0}, new int[] {-1});
        choices("one below the queen", Due.mirror("Q100P6000P7000"), new int[] {2}, new int[] {5});
        choices("a mark stays at 0", Due.mirror("Q111P3330P1900"), new int[] {1}, new int[] {8});
        choices("weights count", Due.mirror("Q012P0030P9040"), new int[] {2}, new int[] {4});
        choices("nothing to lose", Due.mirror("Q100P9000P0000"), new int[] {0}, new int[] {0});
        choices("the one behind answers", Due.mirror("Q100P0000P3000P3000"), new int[] {2, 0}, new int[] {1, -1});
        WallMirror x = Due.mirror("Q100P0000P3000P3000P9000");
        choices("one shields the others", x, new int[] {0, 0, 0}, new int[] {3, 3, -1});
        x.hunt(3, true);
        choices("though it is reported", x, new int[] {0, 0, 0}, new int[] {3, 3, -1});
        x.undo();
        x.hunt(3, false);
        choices("not when it is dead", x, new int[] {2, 0}, new int[] {1, -1});
        WallMirror y = Due.mirror("Q100P0000P9000P3000P3000");
        y.hunt(1, false);
        Due.due("chosen(2) behind a dead one", y.chosen(2), 2);
        Due.due("chosen(3) behind a dead one", y.chosen(3), 0);
        Due.due("chosenWorth(2) behind a dead one", y.chosenWorth(2), 1);
        Due.due("chosenWorth(3) behind a dead one", y.chosenWorth(3), -1);
        WallMirror z = Due.mirror("Q100P6000P7000");
        Due.due("chosenWorth(1) asked first", z.chosenWorth(1), 5);
        for (int i = 0; i < 3; i++) {
            z.plain(1, 0);
        }
        choices("asked again when it is plainer", z, new int[] {0}, new int[] {4});
        choices("five of them", Due.mirror("Q111P3330P4440P4440P1110P9000P0900"),
            new int[] {2, 2, 0, 1, 1}, new int[] {6, 6, 3, 8, 8});
    }

    private static void measures() {
        WallMirror x = Due.mirror("Q321P5000P0500P0050");
        String before = Due.seen(x);
        Due.due("measures(0)", x.measures(0), 285);
        Due.due("measures(1)", x.measures(1), 285);
        Due.due("measures(2)", x.measures(2), 285);
        Due.due("what is seen", Due.seen(x), before);
        x.hunt(1, true);
        Due.due("measures(0) with one reported", x.measures(0), 285);
        x.undo();
        x.hunt(1, false);
        Due.due("measures(0) with one dead", x.measures(0), 450);
        Due.refused(x, "measures(1)", () -> x.measures(1), WallMirror.LATE);
        Due.refused(x, "measures(3)", () -> x.measures(3), WallMirror.UNKNOWN);
        Due.refused(x, "measures(-1)", () -> x.measures(-1), WallMirror.UNKNOWN);
        Due.due("measures(0) of one", Due.mirror("Q111P0000").measures(0), 999);
        Due.due("measures(0) of two alike", Due.mirror("Q111P5550P5550").measures(0), 0);
        Due.due("measures(0) of nobody", new WallMirror().measures(0), WallMirror.UNKNOWN);
    }

    private static void nearest() {
        WallMirror x = Due.mirror("Q111P5000P0500");
        String before = Due.seen(x);
        Due.due("nearest(0)", x.nearest(0), 101);
        Due.due("nearest(1)", x.nearest(1), 11);
        Due.due("what is seen", Due.seen(x), before);
        Due.due("nearest(0) of 999", Due.mirror("Q999P5000P0500").nearest(0), 989);
        Due.due("nearest(0) of 991", Due.mirror("Q991P0500P5000").nearest(0), 891);
        Due.due("nearest(0) that is", Due.mirror("Q210P5000P0500").nearest(0), 210);
        Due.due("nearest(0) of 060", Due.mirror("Q060P5000P0500").nearest(0), 100);
        Due.due("nearest(0) that is the last row", Due.mirror("Q999P5550P0000").nearest(0), 999);
        Due.due("nearest(0) that is the first row", Due.mirror("Q001P0050P5000").nearest(0), 1);
        Due.due("nearest(0) of two alike", Due.mirror("Q111P5550P5550").nearest(0), WallMirror.NONE);
        Due.due("nearest(0) of one", Due.mirror("Q345P0000").nearest(0), 345);
        WallMirror y = Due.mirror("Q111P5000P0500P5000");
        Due.due("nearest(0) with its like", y.nearest(0), WallMirror.NONE);
        y.hunt(2, false);
        Due.due("nearest(0) with its like dead", y.nearest(0), 101);
        Due.refused(y, "nearest(2)", () -> y.nearest(2), WallMirror.LATE);
        Due.refused(y, "nearest(3)", () -> y.nearest(3), WallMirror.UNKNOWN);
        Due.refused(y, "nearest(-1)", () -> y.nearest(-1), WallMirror.UNKNOWN);
        y.morning();
        Due.due("weights have moved", y.about(6), 101);
        Due.due("nearest(1) of the moved weights", y.nearest(1), 11);
    }

    private static void reign() {
        reignOf("Q111P9991P8880", 1, 1);
        reignOf("Q111P9990P1110", WallMirror.NONE, WallMirror.NONE);
        reignOf("Q100P9000P9000", 0, 0);
        reignOf("Q100P8000P9000", 0, 0);
        reignOf("Q100P9001P0000", 9, 9);
        reignOf("Q100P9002P0000", 5, 5);
        reignOf("Q100P0000", WallMirror.NONE, WallMirror.NONE);
        reignOf("Q100P9001P0001", 9, 9);
        reignOf("Q210P5500P6000P0800", WallMirror.NONE, 2);
        reignOf("Q900P9001P0900", 9, 9);
        reignOf("Q120P9501P0800", 1, 9);
        // the last one is feared for 4 (5) mornings and moves nothing, then the others take 26 weights in turn
        reignOf("Q999P8880P0090P0900P9000P7761", WallMirror.NONE, 30);
        reignOf("Q999P8880P0090P0900P9000P8871", WallMirror.NONE, WallMirror.NONE);
        WallMirror x = Due.mirror("Q111P9991P8880P1110");
        x.hunt(1, false);
        Due.due("reign(false) with the rival dead", x.reign(false), 8);
        x.undo();
        x.hunt(1, true);
        Due.due("reign(false) with the rival reported", x.reign(false), 1);
        WallMirror y = new WallMirror();
        Due.refused(y, "reign(false)", () -> y.reign(false), WallMirror.LATE);
        Due.refused(y, "reign(true)", () -> y.reign(true), WallMirror.LATE);
    }

    private static void reignOf(String text, int byYears, int byMornings) {
        WallMirror x = Due.mirror(text);
        String before = Due.seen(x);
        Due.due("reign(false) of " + text, x.reign(false), byYears);
        Due.due("reign(true) of " + text, x.reign(true), byMornings);
        Due.due("what is seen", Due.seen(x), before);
    }

    private static void differs() {
        WallMirror x = Due.mirror("Q100P5000P0500P5500");
        Due.due("differs(10)", x.differs(10), 3);
        Due.due("differs(100)", x.differs(100), 0);
        Due.due("differs(1)", x.differs(1), 2);
        Due.due("differs(999)", x.differs(999), 1);
        Due.due("weights stay", x.about(6), 100);
        x.hunt(2, false);
        Due.due("differs(10) with one dead", x.differs(10), 3);
        Due.due("differs(1) with one dead", x.differs(1), 2);
        Due.due("differs(999) with one dead", x.differs(999), 2);
        Due.refused(x, "differs(0)", () -> x.differs(0), WallMirror.BAD);
        Due.refused(x, "differs(1000)", () -> x.differs(1000), WallMirror.BAD);
        Due.refused(x, "differs(-1)", () -> x.differs(-1), WallMirror.BAD);
        Due.due("differs(5) of nobody", new WallMirror().differs(5), 0);
        Due.due("differs(0) of nobody", new WallMirror().differs(0), WallMirror.BAD);
    }

    private static void rate() {
        WallMirror x = Due.mirror("Q321P5000P0500P9990P0000");
        String before = Due.seen(x);
        Due.fraction("rate(0, 1)", x.rate(0, 1, true), x.rate(0, 1, false), 50, 111);
        Due.fraction("rate(1, 0)", x.rate(1, 0, true), x.rate(1, 0, false), 50, 111);
        Due.fraction("rate(2, 3)", x.rate(2, 3, true), x.rate(2, 3, false), 1, 1);
        Due.fraction("rate(3, 2)", x.rate(3, 2, true), x.rate(3, 2, false), 0, 1);
        Due.fraction("rate(0, 3)", x.rate(0, 3, true), x.rate(0, 3, false), 100, 111);
        Due.due("what is seen", Due.seen(x), before);
        x.hunt(1, false);
        Due.fraction("rate(0, 1) with it dead", x.rate(0, 1, true), x.rate(0, 1, false), 50, 111);
    }
}
