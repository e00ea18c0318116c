/** Promises 1 to 7: a new object, the text, the court, what is told of it. */
public final class CourtTest {
    private static final String SIX = "Q111P1111P1111P1111P1111P1111P1111";

    public static void main(String[] args) {
        newObject();
        write();
        wipe();
        fault();
        court();
        courtMadeAnew();
        courtRefused();
        about();
        person();
        Due.end();
    }

    private static void newObject() {
        WallMirror x = new WallMirror();
        int[] want = {0, 0, 0, 0, 0, 0, 111, 0, 0, 0};
        for (int what = 0; what < want.length; what++) {
            Due.due("new: about(" + what + ")", x.about(what), want[what]);
        }
        Due.due("new: person(0, 0)", x.person(0, 0), WallMirror.UNKNOWN);
        Due.due("new: fault()", x.fault(), 0);
        Due.due("new: undo()", x.undo(), WallMirror.LATE);
        Due.due("new: again(0)", x.again(0), WallMirror.LATE);
        Due.due("new: again(1)", x.again(1), WallMirror.LATE);
        Due.due("new: worlds(0)", x.worlds(0), 1);
        Due.due("new: seed(5)", x.seed(5), 0);
        Due.due("another new one's seed(5)", new WallMirror().seed(5), 0);
    }

    private static void write() {
        WallMirror x = new WallMirror();
        Due.refused(x, "write(-1)", () -> x.write(-1), WallMirror.BAD);
        Due.refused(x, "write(256)", () -> x.write(256), WallMirror.BAD);
        Due.refused(x, "write(least)", () -> x.write(Integer.MIN_VALUE), WallMirror.BAD);
        Due.refused(x, "write(most)", () -> x.write(Integer.MAX_VALUE), WallMirror.BAD);
        Due.due("write(0)", x.write(0), 1);
        Due.due("write(255)", x.write(255), 2);
        for (int length = 3; length <= 40; length++) {
            Due.due("write(81)", x.write(81), length);
        }
        Due.refused(x, "write(81) when full", () -> x.write(81), WallMirror.FULL);
        Due.refused(x, "write(256) when full", () -> x.write(256), WallMirror.BAD);
        Due.due("about(9) when full", x.about(9), 40);
    }

    private static void wipe() {
        WallMirror x = Due.mirror("Q321P5551");
        Due.due("wipe()", x.wipe(), 9);
        Due.due("about(9)", x.about(9), 0);
        Due.due("wipe() again", x.wipe(), 0);
        Due.due("people stay", x.about(0), 1);
        Due.due("weights stay", x.about(6), 321);
        Due.due("fault() of nothing", x.fault(), 0);
        Due.due("write(80)", x.write(80), 1);
        Due.due("fault() of P", x.fault(), 0);
    }

    private static void fault() {
        String[] sound = {"Q111", "Q001", "Q010", "Q100", "Q999", "Q123P0000", "Q123P9990", "Q123P9991", "Q123P9992",
            "Q900P0000P0000", SIX};
        for (String text : sound) {
            faultOf(text, WallMirror.NONE);
        }
        String[] onlyNotAtItsEnd = {"", "Q", "Q1", "Q0", "Q12", "Q00", "Q111P", "Q111P1", "Q111P12", "Q111P123",
            "Q111P1231P", "Q111P1231P12", SIX.substring(0, 33)};
        for (String text : onlyNotAtItsEnd) {
            faultOf(text, text.length());
        }
        faultOf("q", 0);
        faultOf("P", 0);
        faultOf("1", 0);
        faultOf("\0", 0);
        faultOf("\u00ff", 0);
        faultOf("xQ111", 0);
        faultOf("QQ", 1);
        faultOf("Q-11", 1);
        faultOf("Q1/1", 2);
        faultOf("Q1:1", 2);
        faultOf("Q11x", 3);
        faultOf("Q000", 3);
        faultOf("Q000P1111", 3);
        faultOf("Q1111", 4);
        faultOf("Q111p1111", 4);
        faultOf("Q111PP", 5);
        faultOf("Q111P:", 5);
        faultOf("Q111P1/", 6);
        faultOf("Q111P12x", 7);
        faultOf("Q111P1233", 8);
        faultOf("Q111P123/", 8);
        faultOf("Q111P12x9", 7);
        faultOf("Q111P11111", 9);
        faultOf("Q111P1111P1119", 13);
        faultOf(SIX + "P", 34);
        faultOf(SIX + "P1111", 34);
        faultOf(SIX + "x", 34);
        faultOf(SIX.substring(0, 33) + "3", 33);
    }

    private static void faultOf(String text, int want) {
        WallMirror x = new WallMirror();
        Due.write(x, text);
        String call = "fault() of '" + text + "'";
        Due.due(call, x.fault(), want);
        Due.due(call + " asked again", x.fault(), want);
        Due.due("about(9) of '" + text + "'", x.about(9), text.length());
    }

    private static void court() {
        WallMirror x = new WallMirror();
        Due.write(x, "Q321P5551P6400P2702");
        Due.due("nobody ahead of court()", x.about(0), 0);
        Due.due("court()", x.court(), 3);
        Due.due("the text stays", x.about(9), 19);
        Due.due("weights", x.about(6), 321);
        Due.due("all are alive", x.about(1), 7);
        Due.due("nobody is reported", x.about(2), 0);
        Due.marks(x, 0, 5, 5, 5);
        Due.marks(x, 1, 6, 4, 0);
        Due.marks(x, 2, 2, 7, 0);
        Due.due("person(0, 3)", x.person(0, 3), 1);
        Due.due("person(1, 3)", x.person(1, 3), 0);
        Due.due("person(2, 3)", x.person(2, 3), 2);
        Due.due("court() of nobody", Due.mirror("Q009").about(0), 0);
        Due.due("weights of nobody", Due.mirror("Q009").about(6), 9);
        Due.due("court() of six", Due.mirror(SIX).about(0), 6);
        Due.due("six alive", Due.mirror(SIX).about(1), 63);
    }

    private static void courtMadeAnew() {
        WallMirror x = Due.mirror("Q321P5551P6400P2700");
        x.morning();
        x.year();
        x.plain(1, 0);
        x.hunt(2, false);
        x.keep(0);
        x.keep(1);
        x.hear(2, true);
        x.seed(17);
        Due.due("court() anew", x.court(), 3);
        int[] want = {3, 7, 0, 1, 0, 0, 321, 0, 1, 19};
        for (int what = 0; what < want.length; what++) {
            Due.due("anew: about(" + what + ")", x.about(what), want[what]);
        }
        Due.marks(x, 0, 5, 5, 5);
        Due.marks(x, 1, 6, 4, 0);
        Due.due("no acts", x.undo(), WallMirror.LATE);
        Due.due("slot 0 is gone", x.again(0), WallMirror.LATE);
        Due.due("slot 1 is gone", x.again(1), WallMirror.LATE);
        Due.due("the seed stays", x.seed(0), 17);
        Due.write(x, "Q100P1110");
        Due.due("a smaller court()", x.court(), 1);
        Due.due("one alive", x.about(1), 1);
        Due.due("no second", x.person(1, 0), WallMirror.UNKNOWN);
        Due.due("what was heard stays", x.about(8), 1);
    }

    private static void courtRefused() {
        WallMirror x = Due.mirror("Q321P5551P6400");
        x.hunt(1, false);
        x.keep(0);
        x.write('P');
        Due.refused(x, "court() with a fault at its end", x::court, WallMirror.LATE);
        Due.write(x, "Q000");
        Due.refused(x, "court() with a fault", x::court, WallMirror.LATE);
        x.wipe();
        Due.refused(x, "court() of nothing", x::court, WallMirror.LATE);
        Due.due("the act stays", x.undo(), 0);
        Due.due("the slot stays", x.again(0), 1);
    }

    private static void about() {
        WallMirror x = Due.mirror("Q045P5550P6400P2700P5550");
        x.hear(0, true);
        x.hear(1, false);
        x.hunt(3, false);
        x.hunt(1, true);
        x.morning();
        x.morning();
        x.year();
        int[] want = {4, 7, 10, 1, 2, 1, 25, 5, 2, 24};
        for (int what = 0; what < want.length; what++) {
            Due.due("about(" + what + ")", x.about(what), want[what]);
        }
        Due.refused(x, "about(-1)", () -> x.about(-1), WallMirror.BAD);
        Due.refused(x, "about(10)", () -> x.about(10), WallMirror.BAD);
        Due.due("several fairest", Due.mirror("Q111P1230P3210P1110P2220").about(3), 11);
        Due.due("weight 0 counts for nothing", Due.mirror("Q001P1230P3210P9930").about(3), 5);
        Due.due("all of no value", Due.mirror("Q111P0000P0000").about(3), 3);
    }

    private static void person() {
        WallMirror x = Due.mirror("Q321P5551P6402P2700");
        x.hunt(1, false);
        x.hunt(2, true);
        int[][] want = {{5, 5, 5, 1, 1, 0, 30}, {6, 4, 0, 2, 0, 1, 26}, {2, 7, 0, 0, 1, 1, 20}};
        for (int person = 0; person < 3; person++) {
            for (int what = 0; what < 7; what++) {
                Due.due("person(" + person + ", " + what + ")", x.person(person, what), want[person][what]);
            }
        }
        Due.refused(x, "person(-1, 0)", () -> x.person(-1, 0), WallMirror.UNKNOWN);
        Due.refused(x, "person(3, 0)", () -> x.person(3, 0), WallMirror.UNKNOWN);
        Due.refused(x, "person(3, 7)", () -> x.person(3, 7), WallMirror.UNKNOWN);
        Due.refused(x, "person(most, 0)", () -> x.person(Integer.MAX_VALUE, 0), WallMirror.UNKNOWN);
        Due.refused(x, "person(2, -1)", () -> x.person(2, -1), WallMirror.BAD);
        Due.refused(x, "person(0, 7)", () -> x.person(0, 7), WallMirror.BAD);
    }
}
