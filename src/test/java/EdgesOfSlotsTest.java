/** The boundary cases of the promises 31 and 32, a test each; what is refused there is in RefusalsTest. */
public final class EdgesOfSlotsTest {
    private static final int LATE = WallMirror.LATE;

    public static void main(String[] args) {
        bothSlots();
        noneWereKept();
        nobodyIsKept();
        keptOverAgain();
        againAndAgain();
        eachThingThatIsKept();
        noActsWhenOneGoesOn();
        actsAreNotKept();
        aCourtAnewEmptiesBoth();
        whatIsNotKept();
        howManyAreAlive();
        Due.end();
    }

    /** "SLOTS 0 .. 1": each keeps for itself. */
    private static void bothSlots() {
        for (int first = 0; first <= 1; first++) {
            int second = 1 - first;
            WallMirror x = Due.mirror("Q321P5551P6402P2700");
            Due.due("keep(" + first + ")", x.keep(first), 3);
            Due.due("again(" + second + ")", x.again(second), LATE);
            x.hunt(2, false);
            Due.due("keep(" + second + ")", x.keep(second), 2);
            x.hunt(1, false);
            Due.due("again(" + first + ")", x.again(first), 3);
            Due.due("alive", x.about(1), 7);
            Due.due("again(" + second + ")", x.again(second), 2);
            Due.due("alive", x.about(1), 3);
            Due.due("keep(-1)", x.keep(-1), WallMirror.UNKNOWN);
            Due.due("keep(2)", x.keep(2), WallMirror.UNKNOWN);
            Due.due("again(-1)", x.again(-1), WallMirror.UNKNOWN);
            Due.due("again(2)", x.again(2), WallMirror.UNKNOWN);
        }
    }

    /** "LATE: none were kept": in that slot. */
    private static void noneWereKept() {
        WallMirror x = Due.mirror("Q321P5551P6402P2700");
        Due.due("again(0)", x.again(0), LATE);
        Due.due("again(1)", x.again(1), LATE);
        x.year();
        x.keep(1);
        x.year();
        Due.due("again(0), 1 was kept", x.again(0), LATE);
        Due.due("ACTS", x.about(7), 2);
        Due.due("YEARS", x.about(5), 2);
    }

    /** Nobody is kept, too: of a new one, and of a court of nobody. */
    private static void nobodyIsKept() {
        WallMirror x = new WallMirror();
        Due.due("keep(0) of a new one", x.keep(0), 0);
        x.year();
        Due.due("keep(1) of nobody", x.keep(1), 0);
        x.year();
        Due.due("again(0)", x.again(0), 0);
        Due.due("YEARS", x.about(5), 0);
        Due.due("WEIGHTS", x.about(6), 111);
        Due.due("undo()", x.undo(), LATE);
        Due.due("again(1)", x.again(1), 0);
        Due.due("YEARS", x.about(5), 1);
        Due.due("year()", x.year(), 2);
    }

    /** What was kept last is what is gone on from. */
    private static void keptOverAgain() {
        WallMirror x = Due.mirror("Q321P5551P6402P2700");
        for (int times = 1; times <= 10; times++) {
            x.year();
            Due.due("keep(0)", x.keep(0), 3);
        }
        x.year();
        Due.due("again(0)", x.again(0), 3);
        Due.due("YEARS", x.about(5), 10);
        Due.due("again(1)", x.again(1), LATE);
    }

    /** A slot stays kept, as often as one goes on from it, whatever is done then. */
    private static void againAndAgain() {
        WallMirror x = Due.mirror("Q321P5551P6402P2700");
        x.keep(0);
        for (int times = 0; times < 5; times++) {
            x.morning();
            x.year();
            x.plain(1, 0);
            x.hunt(2, times % 2 == 0);
            Due.due("again(0)", x.again(0), 3);
            Due.due("WEIGHTS", x.about(6), 321);
            Due.due("MORNINGS", x.about(4), 0);
            Due.due("YEARS", x.about(5), 0);
            Due.due("REPORTED", x.about(2), 0);
            Due.marks(x, 0, 5, 5, 5);
            Due.marks(x, 1, 6, 4, 0);
        }
    }

    /** "SLOTS keep WEIGHTS, MARKS, who is alive, REPORTED, how many MORNINGS, YEARS there were": of six people all. */
    private static void eachThingThatIsKept() {
        WallMirror x = Due.mirror("Q987P9990P8880P7771P6662P9992P5551");
        for (int person = 0; person < 6; person++) {
            x.plain(person, person % 3);
        }
        x.morning();
        x.morning();
        x.year();
        x.hunt(4, true);
        x.hunt(5, false);
        x.keep(1);
        String kept = Due.seen(x);
        x.undo();
        x.undo();
        x.year();
        x.year();
        x.morning();
        x.hunt(1, false);
        x.hunt(2, true);
        for (int person = 0; person < 6; person++) {
            for (int mark = 0; mark < 3; mark++) {
                x.plain(person, mark);
            }
        }
        Due.due("again(1)", x.again(1), 5);
        Due.due("what is seen but for ACTS", Due.seen(x), kept.replaceFirst(" 11 0 34 ", " 0 0 34 "));
        Due.due("WEIGHTS", x.about(6), 787);
        Due.due("MORNINGS", x.about(4), 2);
        Due.due("YEARS", x.about(5), 1);
        Due.due("alive", x.about(1), 31);
        Due.due("REPORTED", x.about(2), 48);
        Due.marks(x, 0, 8, 9, 9);
        Due.marks(x, 3, 3, 4, 4);
        Due.marks(x, 5, 4, 4, 3);
    }

    /** "(no ACTS when one goes on)": also from a full row, and new ones begin anew. */
    private static void noActsWhenOneGoesOn() {
        WallMirror x = Due.mirror("Q321P5551P6402P2700");
        x.keep(0);
        for (int acts = 0; acts < 20; acts++) {
            x.year();
        }
        x.again(0);
        Due.due("ACTS", x.about(7), 0);
        Due.due("undo()", x.undo(), LATE);
        Due.due("YEARS", x.about(5), 0);
        for (int acts = 1; acts <= 14; acts++) {
            x.year();
            Due.due("ACTS", x.about(7), acts);
        }
        for (int left = 13; left >= 0; left--) {
            Due.due("undo()", x.undo(), left);
        }
        Due.due("YEARS", x.about(5), 0);
        Due.due("undo()", x.undo(), LATE);
    }

    /** Keeping is no ACT, and an undone ACT changes nothing that was kept. */
    private static void actsAreNotKept() {
        WallMirror x = Due.mirror("Q321P5551P6402P2700");
        x.year();
        x.keep(0);
        Due.due("ACTS behind keep", x.about(7), 1);
        Due.due("undo()", x.undo(), 0);
        Due.due("YEARS", x.about(5), 0);
        Due.due("undo()", x.undo(), LATE);
        Due.due("again(0)", x.again(0), 3);
        Due.due("YEARS as kept", x.about(5), 1);
        Due.due("undo()", x.undo(), LATE);
    }

    /** "What was kept is gone", though the court is the same; a court that is refused leaves it. */
    private static void aCourtAnewEmptiesBoth() {
        WallMirror x = Due.mirror("Q321P5551P6402P2700");
        x.keep(0);
        x.keep(1);
        x.write('x');
        Due.due("court() with a FAULT", x.court(), LATE);
        Due.due("again(0)", x.again(0), 3);
        Due.due("again(1)", x.again(1), 3);
        Due.write(x, "Q321P5551P6402P2700");
        Due.due("court()", x.court(), 3);
        Due.due("again(0), court anew", x.again(0), LATE);
        Due.due("again(1), court anew", x.again(1), LATE);
        x.keep(1);
        Due.due("again(0), 1 kept anew", x.again(0), LATE);
        Due.due("again(1), 1 kept anew", x.again(1), 3);
    }

    /** HEARD, THE SEED, THE TEXT are not kept: they stay as they are. */
    private static void whatIsNotKept() {
        WallMirror x = Due.mirror("Q111P5550P6660");
        x.hear(0, true);
        x.seed(5);
        x.keep(0);
        x.unhear();
        x.hear(1, true);
        x.hear(1, true);
        x.seed(6);
        x.wipe();
        x.write('x');
        Due.due("again(0)", x.again(0), 2);
        Due.due("HEARD", x.about(8), 2);
        Due.due("worlds(0)", x.worlds(0), 1);
        Due.due("bytes of THE TEXT", x.about(9), 1);
        Due.due("fault()", x.fault(), 0);
        Due.due("THE SEED", x.seed(0), 6);
    }

    /** "How many are alive", by both calls: from six down to one. */
    private static void howManyAreAlive() {
        WallMirror x = Due.mirror("Q111P1110P1110P1110P1110P1110P1110");
        Due.due("keep(0) of six", x.keep(0), 6);
        for (int person = 1; person <= 5; person++) {
            x.hunt(person, false);
            Due.due("keep(1)", x.keep(1), 6 - person);
            Due.due("again(0)", x.again(0), 6);
            Due.due("again(1)", x.again(1), 6 - person);
        }
        x.again(0);
        x.hunt(1, true);
        Due.due("keep(1) with one REPORTED", x.keep(1), 6);
        Due.due("again(1) with one REPORTED", x.again(1), 6);
        Due.due("REPORTED", x.about(2), 2);
    }
}
