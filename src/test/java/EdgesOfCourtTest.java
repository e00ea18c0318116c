/** The boundary cases of the promises 1 to 7, a test each; what is refused there is in RefusalsTest. */
public final class EdgesOfCourtTest {
    private static final int NONE = WallMirror.NONE;
    private static final int UNKNOWN = WallMirror.UNKNOWN;
    private static final int LATE = WallMirror.LATE;
    /** Six people with each figure told: the longest court. */
    private static final String SIX = "Q123P0120P3451P6782P9010P2341P5672";

    public static void main(String[] args) {
        nobodyAtFirst(new WallMirror(), 111);
        nobodyAtFirst(Due.mirror("Q907"), 907);
        nobodyAtFirst(emptiedAgain(), 12);
        leastAndGreatestByte();
        textOfForty();
        wiped();
        everyWeight();
        everyByteAtEveryPlace();
        everyLength();
        behindTheSixth();
        firstOfSeveralFaults();
        noneOrMorePeople();
        courtsOneBehindTheOther();
        sameCourtAnew();
        nothingOfFormerPeople();
        greatestCounts();
        countsOfActs();
        fairestOfNobodyAndAll();
        leastAndGreatestValue();
        theDeadAndTheReported();
        as512Calls();
        Due.end();
    }

    /** "Nobody." "At first WEIGHTS are 1, 1, 1, and there is nobody." Each call is asked of nobody. */
    private static void nobodyAtFirst(WallMirror x, int weights) {
        int[] about = {0, 0, 0, 0, 0, 0, weights, 0, 0};
        for (int what = 0; what < about.length; what++) {
            Due.due("nobody: about(" + what + ")", x.about(what), about[what]);
        }
        Due.due("nobody: person(0, 0)", x.person(0, 0), UNKNOWN);
        Due.due("nobody: morning()", x.morning(), LATE);
        Due.due("nobody: plain(0, 0)", x.plain(0, 0), UNKNOWN);
        Due.due("nobody: hunt(0, false)", x.hunt(0, false), UNKNOWN);
        Due.due("nobody: undo()", x.undo(), LATE);
        Due.due("nobody: judged(1, 0)", x.judged(1, 0), 0);
        Due.due("nobody: judged(8, 99999999)", x.judged(8, 99999999), 0);
        Due.due("nobody: hear(0, false)", x.hear(0, false), UNKNOWN);
        Due.due("nobody: unhear()", x.unhear(), 0);
        Due.due("nobody: worlds(0)", x.worlds(0), 1);
        Due.due("nobody: worlds(1)", x.worlds(1), 0);
        Due.due("nobody: toAsk()", x.toAsk(), NONE);
        for (int k = 0; k <= 6; k++) {
            Due.due("nobody: answer(" + k + ", false)", x.answer(k, false), k == 0 ? 1 : 0);
            Due.due("nobody: answer(" + k + ", true)", x.answer(k, true), k == 0 ? 0 : NONE);
        }
        Due.due("nobody: chosen(0)", x.chosen(0), UNKNOWN);
        Due.due("nobody: chosenWorth(0)", x.chosenWorth(0), UNKNOWN);
        Due.due("nobody: measures(0)", x.measures(0), UNKNOWN);
        Due.due("nobody: nearest(0)", x.nearest(0), UNKNOWN);
        Due.due("nobody: reign(false)", x.reign(false), LATE);
        Due.due("nobody: reign(true)", x.reign(true), LATE);
        Due.due("nobody: differs(1)", x.differs(1), 0);
        Due.due("nobody: differs(999)", x.differs(999), 0);
        Due.due("nobody: rate(0, 1)", x.rate(0, 1, true), UNKNOWN);
        Due.due("nobody: saying(0, 5)", x.saying(0, 5, true), UNKNOWN);
        Due.due("nobody: believed(0, 5, 5)", x.believed(0, 5, 5, true), UNKNOWN);
        Due.due("nobody: chance(5)", x.chance(5, true), LATE);
        Due.due("nobody: seed(0)", x.seed(0), 0);
        Due.due("nobody: hunted(1)", x.hunted(1), LATE);
        Due.due("nobody: again(0)", x.again(0), LATE);
        Due.due("nobody: again(1)", x.again(1), LATE);
        Due.due("nobody: year()", x.year(), 1);
        Due.due("nobody: keep(1)", x.keep(1), 0);
        Due.due("nobody: again(1) kept", x.again(1), 0);
        Due.due("nobody: YEARS", x.about(5), 1);
    }

    /** Nobody where there were six, two of them REPORTED, in a court that was older. */
    private static WallMirror emptiedAgain() {
        WallMirror x = Due.mirror(SIX);
        x.hunt(1, true);
        x.hunt(2, false);
        x.morning();
        x.year();
        x.keep(0);
        x.keep(1);
        Due.write(x, "Q012");
        Due.due("court() of nobody behind six", x.court(), 0);
        return x;
    }

    // ---- write, wipe

    /** "A byte (0 .. 255) comes behind THE TEXT": each of them is taken, and tells how long it is. */
    private static void leastAndGreatestByte() {
        WallMirror x = new WallMirror();
        for (int letter = 0; letter <= 255; letter++) {
            if (letter % 40 == 0) {
                x.wipe();
            }
            Due.due("write(" + letter + ")", x.write(letter), letter % 40 + 1);
        }
    }

    /** "THE TEXT is bytes (40 at most)"; "FULL: there are 40": the fortieth is taken, and wiped there is room again. */
    private static void textOfForty() {
        WallMirror x = new WallMirror();
        for (int times = 0; times < 3; times++) {
            for (int length = 1; length <= 40; length++) {
                Due.due("write('Q') as byte " + length, x.write('Q'), length);
            }
            Due.due("bytes", x.about(9), 40);
            Due.due("write('Q') as byte 41", x.write('Q'), WallMirror.FULL);
            Due.due("write('Q') as byte 41 again", x.write('Q'), WallMirror.FULL);
            Due.due("bytes", x.about(9), 40);
            Due.due("wipe() of 40", x.wipe(), 40);
        }
        Due.write(x, SIX);
        Due.due("court() behind full texts", x.court(), 6);
    }

    /** "THE TEXT is empty: how long it was": also when it was empty; nothing is left of what it held. */
    private static void wiped() {
        WallMirror x = new WallMirror();
        Due.due("wipe() of a new one", x.wipe(), 0);
        x.write('Q');
        Due.due("wipe() of one byte", x.wipe(), 1);
        Due.due("fault() of an empty text", x.fault(), 0);
        Due.due("wipe() again", x.wipe(), 0);
        Due.write(x, "Q999P9992");
        x.wipe();
        Due.write(x, "Q001");
        Due.due("fault() of a shorter text", x.fault(), NONE);
        Due.due("court() of a shorter text", x.court(), 0);
        Due.due("wipe() of it", x.wipe(), 4);
        Due.write(x, "Q00");
        Due.due("fault() of one cut short", x.fault(), 3);
    }

    // ---- fault

    private static void faultOf(String text, int want) {
        WallMirror x = new WallMirror();
        Due.write(x, text);
        Due.due("fault() of '" + text + "'", x.fault(), want);
    }

    /** "WEIGHTS of MARKS 0, 1, 2, not all 0": of all rows only 000 is a FAULT, which its last figure tells. */
    private static void everyWeight() {
        for (int row = 0; row <= 999; row++) {
            String figures = "" + row / 100 + row / 10 % 10 + row % 10;
            faultOf("Q" + figures, row == 0 ? 3 : NONE);
            WallMirror x = Due.mirror("Q" + figures + "P1000P0100P0010");
            Due.due("WEIGHTS told as " + figures, x.about(6), row == 0 ? 111 : row);
        }
        faultOf("Q0", 2);
        faultOf("Q00", 3);
        faultOf("Q000", 3);
        faultOf("Q000P", 3);
        faultOf("Q0000", 3);
    }

    /** "The place of the first byte by which THE TEXT can be no COURT, whatever came behind it": all bytes tried. */
    private static void everyByteAtEveryPlace() {
        for (int place = 0; place < SIX.length(); place++) {
            for (int letter = 0; letter <= 255; letter++) {
                StringBuilder text = new StringBuilder(SIX);
                text.setCharAt(place, (char) letter);
                boolean fits = fits(place, letter);
                faultOf(text.toString(), fits ? NONE : place);
                if (!fits) {
                    faultOf(text.substring(0, place + 1), place);
                }
            }
        }
    }

    private static boolean fits(int place, int letter) {
        if (place == 0) {
            return letter == 'Q';
        }
        if (place >= 4 && place % 5 == 4) {
            return letter == 'P';
        }
        int most = place >= 4 && place % 5 == 3 ? '2' : '9';
        return letter >= '0' && letter <= most;
    }

    /** "Its length, if it is only not at its end; NONE: none": at its end behind the WEIGHTS and behind each person. */
    private static void everyLength() {
        for (int length = 0; length <= SIX.length(); length++) {
            boolean atItsEnd = length >= 4 && length % 5 == 4;
            faultOf(SIX.substring(0, length), atItsEnd ? NONE : length);
        }
    }

    /** "PEOPLE (6 at most)", "its length set aside": a seventh can't be, whatever its byte and what comes behind it. */
    private static void behindTheSixth() {
        for (int letter = 0; letter <= 255; letter++) {
            faultOf(SIX + (char) letter, 34);
        }
        String seventh = SIX + "P1110P";
        for (int length = 35; length <= 40; length++) {
            faultOf(seventh.substring(0, length), 34);
        }
        faultOf("x".repeat(40), 0);
        faultOf(SIX.substring(0, 33) + "3P1110P", 33);
    }

    /** "The first byte": of several faults the first one is told, a wrong end comes last. */
    private static void firstOfSeveralFaults() {
        faultOf("xx", 0);
        faultOf("Qxx", 1);
        faultOf("Q1xP", 2);
        faultOf("Q11xx", 3);
        faultOf("Q000x", 3);
        faultOf("Q00x", 3);
        faultOf("Q111xP", 4);
        faultOf("Q111P113333", 8);
        faultOf("Q111P1113P3", 8);
        faultOf("Q111P111", 8);
        faultOf("Q111P1x1", 6);
    }

    // ---- court

    /** "PEOPLE, none or more, numbered as they are told"; "all are alive" at first. */
    private static void noneOrMorePeople() {
        for (int people = 0; people <= 6; people++) {
            WallMirror x = new WallMirror();
            Due.write(x, SIX.substring(0, 4 + 5 * people));
            Due.due("court() of " + people, x.court(), people);
            Due.due("people of " + people, x.about(0), people);
            Due.due("alive of " + people, x.about(1), (1 << people) - 1);
            Due.due("reported of " + people, x.about(2), 0);
            Due.due("WEIGHTS of " + people, x.about(6), 123);
            for (int person = 0; person < people; person++) {
                for (int what = 0; what < 4; what++) {
                    int told = SIX.charAt(5 + 5 * person + what) - '0';
                    Due.due("person(" + person + ", " + what + ") of " + people, x.person(person, what), told);
                }
                Due.due("person(" + person + ", 4) of " + people, x.person(person, 4), 1);
                Due.due("person(" + person + ", 5) of " + people, x.person(person, 5), 0);
            }
            Due.due("person(" + people + ", 4) of " + people, x.person(people, 4), UNKNOWN);
        }
    }

    /** Courts of fewer and of more, one behind the other: each one is as it is told. */
    private static void courtsOneBehindTheOther() {
        WallMirror x = new WallMirror();
        for (int people : new int[] {6, 0, 5, 1, 6, 2}) {
            Due.write(x, SIX.substring(0, 4 + 5 * people));
            Due.due("court() of " + people, x.court(), people);
            Due.due("alive of " + people, x.about(1), (1 << people) - 1);
            Due.due("person(" + people + ", 0)", x.person(people, 0), UNKNOWN);
            if (people > 1) {
                x.hunt(people - 1, people == 5);
            }
            x.year();
        }
        Due.marks(x, 1, 3, 4, 5);
    }

    /** "THE TEXT itself stays": it is the court as often as one likes; "no ACTS; what was kept is gone". */
    private static void sameCourtAnew() {
        WallMirror x = Due.mirror("Q321P5551P6402P2700");
        for (int times = 0; times < 3; times++) {
            x.morning();
            x.year();
            x.hunt(1, false);
            x.hunt(2, true);
            x.keep(times % 2);
            x.hear(1, true);
            Due.due("court() anew", x.court(), 3);
            Due.due("alive", x.about(1), 7);
            Due.due("reported", x.about(2), 0);
            Due.due("MORNINGS", x.about(4), 0);
            Due.due("YEARS", x.about(5), 0);
            Due.due("WEIGHTS", x.about(6), 321);
            Due.due("ACTS", x.about(7), 0);
            Due.due("HEARD", x.about(8), times + 1);
            Due.due("bytes of THE TEXT", x.about(9), 19);
            Due.due("undo()", x.undo(), LATE);
            Due.due("again(0)", x.again(0), LATE);
            Due.due("again(1)", x.again(1), LATE);
            Due.marks(x, 1, 6, 4, 0);
        }
        Due.due("wipe()", x.wipe(), 19);
        Due.due("court() of an empty text", x.court(), LATE);
        Due.due("people stay", x.about(0), 3);
    }

    /** Of people that are no more there nothing is looked at, be it by value, sets, counts or choices. */
    private static void nothingOfFormerPeople() {
        WallMirror x = Due.mirror("Q111P1110P9990P9990P9990P9990P9992");
        Due.write(x, "Q111P1110");
        x.court();
        Due.due("FAIREST", x.about(3), 1);
        Due.due("morning()", x.morning(), 1);
        Due.due("WEIGHTS", x.about(6), 111);
        Due.due("worlds(1)", x.worlds(1), 1);
        Due.due("answer(1, true)", x.answer(1, true), 1);
        Due.due("answer(2, true)", x.answer(2, true), NONE);
        Due.due("measures(0)", x.measures(0), 999);
        Due.due("nearest(0)", x.nearest(0), 111);
        Due.due("reign(true)", x.reign(true), NONE);
        Due.due("differs(100)", x.differs(100), 0);
        Due.due("saying(0, 0) below", x.saying(0, 0, false), 1);
        Due.due("chance(5)", x.chance(5, true), 1);
        Due.due("hunted(30)", x.hunted(30), 1);
        Due.due("keep(0)", x.keep(0), 1);
    }

    // ---- about, person

    /** Each thing that is told at its greatest. */
    private static void greatestCounts() {
        WallMirror x = Due.mirror("Q999P0002P0002P0002P0002P0002P0002");
        Due.due("WEIGHTS", x.about(6), 999);
        for (int person = 1; person < 6; person++) {
            x.hunt(person, person != 3);
        }
        for (int times = 1; times <= 100; times++) {
            Due.due("morning()", x.morning(), 55);
            Due.due("MORNINGS", x.about(4), times);
            Due.due("year()", x.year(), times);
            Due.due("YEARS", x.about(5), times);
        }
        for (int times = 0; times < 6; times++) {
            x.hear(0, true);
        }
        int[] want = {6, 55, 62, 55, 100, 100, 999, 14, 6, 34};
        for (int what = 0; what < want.length; what++) {
            Due.due("about(" + what + ") at its greatest", x.about(what), want[what]);
        }
        Due.due("about(3) of six alike", Due.mirror(SIX.replaceAll("P....", "P1110")).about(3), 63);
        Due.due("about(6) at its least", Due.mirror("Q001").about(6), 1);
    }

    /** ACTS (7): each kind is one, what is refused is none, 14 at most. */
    private static void countsOfActs() {
        WallMirror x = Due.mirror("Q321P5551P6402P2700");
        x.morning();
        Due.due("ACTS behind a morning", x.about(7), 1);
        x.year();
        Due.due("ACTS behind a year", x.about(7), 2);
        x.plain(0, 0);
        Due.due("ACTS behind plain", x.about(7), 3);
        x.hunt(1, true);
        Due.due("ACTS behind a hunt that lied", x.about(7), 4);
        x.hunt(2, false);
        Due.due("ACTS behind a hunt", x.about(7), 5);
        x.hunt(0, false);
        x.hunt(2, false);
        x.plain(2, 0);
        x.plain(0, 3);
        x.keep(0);
        x.hear(0, true);
        x.hunted(3);
        x.seed(1);
        x.write('P');
        Due.due("ACTS behind what is none", x.about(7), 5);
        for (int acts = 6; acts <= 14; acts++) {
            x.year();
            Due.due("ACTS", x.about(7), acts);
        }
        x.year();
        Due.due("ACTS of a full row", x.about(7), 14);
        x.undo();
        Due.due("ACTS behind undo", x.about(7), 13);
    }

    /** "FAIREST: those alive of greatest VALUE": nobody, one, several, all; the dead are none of them. */
    private static void fairestOfNobodyAndAll() {
        Due.due("FAIREST of nobody", Due.mirror("Q111").about(3), 0);
        Due.due("FAIREST of one of no VALUE", Due.mirror("Q111P0000").about(3), 1);
        Due.due("FAIREST of one whose MARKS weigh nothing", Due.mirror("Q010P9090").about(3), 1);
        Due.due("FAIREST of six of no VALUE", Due.mirror("Q111P0000P0000P0000P0000P0000P0000").about(3), 63);
        Due.due("FAIREST, the last one", Due.mirror("Q111P0000P0000P0000P0000P0000P0010").about(3), 32);
        Due.due("FAIREST, the first and the last", Due.mirror("Q111P0010P0000P0000P0000P0000P1000").about(3), 33);
        WallMirror x = Due.mirror("Q111P1110P2220P2220");
        x.hunt(1, false);
        Due.due("FAIREST without a dead one", x.about(3), 4);
        x.hunt(2, true);
        Due.due("FAIREST with one REPORTED that is alive", x.about(3), 4);
        x.undo();
        x.hunt(2, false);
        Due.due("FAIREST, all others dead", x.about(3), 1);
    }

    /** VALUE: 0 at least, 243 at most; "each MARK as often as its WEIGHT, together". */
    private static void leastAndGreatestValue() {
        Due.due("VALUE of nothing", Due.mirror("Q999P0000").person(0, 6), 0);
        Due.due("VALUE of all", Due.mirror("Q999P9990").person(0, 6), 243);
        Due.due("VALUE by MARK 0", Due.mirror("Q900P9880").person(0, 6), 81);
        Due.due("VALUE by MARK 1", Due.mirror("Q070P9880").person(0, 6), 56);
        Due.due("VALUE by MARK 2", Due.mirror("Q003P9870").person(0, 6), 21);
        Due.due("AGEING is no MARK", Due.mirror("Q999P0002").person(0, 6), 0);
        Due.due("VALUE of the last person", Due.mirror(SIX).person(5, 6), 5 + 2 * 6 + 3 * 7);
    }

    /** Of a dead one all is told, too; one REPORTED may be alive. */
    private static void theDeadAndTheReported() {
        WallMirror x = Due.mirror(SIX);
        x.hunt(5, false);
        x.hunt(4, true);
        int[] dead = {5, 6, 7, 2, 0, 1, 38};
        int[] liedOf = {2, 3, 4, 1, 1, 1, 20};
        int[] queen = {0, 1, 2, 0, 1, 0, 8};
        for (int what = 0; what <= 6; what++) {
            Due.due("person(5, " + what + ") of a dead one", x.person(5, what), dead[what]);
            Due.due("person(4, " + what + ") of one REPORTED", x.person(4, what), liedOf[what]);
            Due.due("person(0, " + what + ") of her", x.person(0, what), queen[what]);
        }
    }

    /** "An object is used for at most 512 calls": the last of them answers as the first. */
    private static void as512Calls() {
        WallMirror x = Due.mirror("Q111P1110P1110");
        for (int call = 17; call <= 510; call++) {
            x.year();
        }
        Due.due("call 511, year()", x.year(), 495);
        Due.due("call 512, undo()", x.undo(), 13);
    }
}
