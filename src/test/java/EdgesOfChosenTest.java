/** The boundary cases of the promises 19 to 25, a test each; what is refused there is in RefusalsTest. */
public final class EdgesOfChosenTest {
    private static final int NONE = WallMirror.NONE;

    public static void main(String[] args) {
        noOneIsFairestOfOne();
        fairestHasNothing();
        zeroIsMoreThanNothing();
        marksOfNothingStay();
        ofLikeChoicesTheLeast();
        noneAndFiveWhoChoose();
        fiveWhoDiffer();
        theDeadDoNotChoose();
        fromTheLastBack();
        noMeasureAndAll();
        oneMeasure();
        aloneNotBeside();
        nearestIsWhatThereIs();
        nearestOfLikeOnes();
        nearestWithinTheFigures();
        nearestFarAway();
        noNearest();
        reignIsOver();
        reignOfYears();
        reignOfThirtyYears();
        reignWithoutRivals();
        morningAheadOfTheYear();
        glassesThatDoNotDiffer();
        glassesThatDifferInAll();
        rateOfNoneAndAll();
        rateOfFewAndMany();
        rateOfTheDead();
        Due.end();
    }

    private static void choice(WallMirror x, int person, int plain, int worth) {
        Due.due("chosen(" + person + ")", x.chosen(person), plain);
        Due.due("chosenWorth(" + person + ")", x.chosenWorth(person), worth);
        Due.due("chosen(" + person + ") once more", x.chosen(person), plain);
    }

    // ---- chosen

    /** 0, 1 and 2 less: as little as it takes to be below her. */
    private static void noOneIsFairestOfOne() {
        choice(Due.mirror("Q100P7000P6000"), 1, 0, 6);
        choice(Due.mirror("Q100P7000P7000"), 1, 1, 6);
        choice(Due.mirror("Q100P7000P8000"), 1, 2, 6);
        choice(Due.mirror("Q100P7000P9000"), 1, 0, -1);
        choice(Due.mirror("Q999P9990P9990"), 1, 1, 216);
    }

    /** "Who is FAIREST of all alive (several, too) has nothing (-1)": as high as she is, too. */
    private static void fairestHasNothing() {
        choice(Due.mirror("Q111P2220P4440"), 1, 0, -1);
        choice(Due.mirror("Q111P2230P4440"), 1, 2, 6);
        WallMirror x = Due.mirror("Q100P0000P9000P9000");
        // at 9 or 8 the one behind could go below it; at 7 it can't, and so stays at 9
        choice(x, 1, 2, 7);
        choice(x, 2, 0, -1);
    }

    /** "Others their VALUE": a VALUE of 0 is more than nothing. */
    private static void zeroIsMoreThanNothing() {
        choice(Due.mirror("Q100P1000P0000"), 1, 0, 0);
        choice(Due.mirror("Q100P1000P1000"), 1, 1, 0);
        choice(Due.mirror("Q100P1000P2000"), 1, 2, 0);
        choice(Due.mirror("Q100P0000P0000"), 1, 0, -1);
        choice(Due.mirror("Q001P0010P9920"), 1, 2, 0);
    }

    /** Five of whom only 4 is FAIREST: at 7 it would be so, too, if nobody ahead of it is above 7. */
    private static void fiveWhoDiffer() {
        WallMirror x = Due.mirror("Q100P7000P6000P7000P8000P9000P0000");
        choice(x, 1, 0, 6);
        choice(x, 2, 0, 7);
        choice(x, 3, 1, 7);
        choice(x, 4, 0, -1);
        choice(x, 5, 0, 0);
    }

    /** "Less in each MARK (0 at least)". */
    private static void marksOfNothingStay() {
        choice(Due.mirror("Q111P8000P1800"), 1, 1, 7);
        choice(Due.mirror("Q111P8000P0910"), 1, 2, 7);
        choice(Due.mirror("Q111P7000P0900"), 1, 0, -1);
        choice(Due.mirror("Q119P7000P0010"), 1, 1, 0);
        choice(Due.mirror("Q911P9000P9000"), 1, 1, 72);
    }

    /** "Of like ones the least": MARKS of no WEIGHT, or of 0, are worth the same, however plain. */
    private static void ofLikeChoicesTheLeast() {
        choice(Due.mirror("Q010P0900P9090"), 1, 0, 0);
        choice(Due.mirror("Q010P0000P9090"), 1, 0, -1);
        choice(Due.mirror("Q111P1110P0000"), 1, 0, 0);
        WallMirror x = Due.mirror("Q100P0000P9000P6000");
        choice(x, 1, 0, -1);
        choice(x, 2, 0, 6);
    }

    /** None who chooses (there is only THE QUEEN), and one to five: below her by nothing, by 1 or by 2 less. */
    private static void noneAndFiveWhoChoose() {
        WallMirror one = Due.mirror("Q111P5550");
        Due.due("chosen(1) of one", one.chosen(1), WallMirror.UNKNOWN);
        Due.due("chosen(0) of one", one.chosen(0), WallMirror.BAD);
        WallMirror none = Due.mirror("Q111P5550P6660");
        none.hunt(1, false);
        Due.due("chosen(1) of a dead one", none.chosen(1), WallMirror.LATE);
        for (int choosers = 1; choosers <= 5; choosers++) {
            WallMirror first = Due.mirror("Q100P7000" + "P6000".repeat(choosers));
            WallMirror second = Due.mirror("Q100P7000" + "P7000".repeat(choosers));
            WallMirror third = Due.mirror("Q100P7000" + "P8000".repeat(choosers));
            for (int person = 1; person <= choosers; person++) {
                choice(first, person, 0, 6);
                choice(second, person, 1, 6);
                choice(third, person, 2, 6);
            }
        }
        WallMirror y = Due.mirror("Q100P0000P9000P9000P9000P9000P9000");
        for (int person = 1; person <= 4; person++) {
            choice(y, person, 2, 7);
        }
        choice(y, 5, 0, -1);
    }

    /** "Each one alive but THE QUEEN": the dead shield nobody, one REPORTED that is alive does. */
    private static void theDeadDoNotChoose() {
        WallMirror x = Due.mirror("Q100P0000P5000P5000P9000P4000P5000");
        x.hunt(3, true);
        choice(x, 1, 0, 5);
        choice(x, 2, 0, 5);
        choice(x, 3, 0, -1);
        x.undo();
        x.hunt(3, false);
        x.hunt(1, false);
        // the last one stays above all only if those ahead are at 3
        choice(x, 2, 2, 3);
        choice(x, 4, 1, 3);
        choice(x, 5, 0, -1);
    }

    /** "Each chooses .. knowing what those ahead chose, .. if those behind do so, too". */
    private static void fromTheLastBack() {
        WallMirror x = Due.mirror("Q100P0000P9000P8000");
        // 1 at 9, 8 or 7: 2 goes to 8, 7 or 6, below it, so 1 has nothing, whatever it chooses
        choice(x, 1, 0, -1);
        choice(x, 2, 0, 8);
        WallMirror y = Due.mirror("Q100P0000P8000P9000");
        // 1 at 8: 2 goes to 7; 1 at 7: 2 can't go below it and stays at 9
        choice(y, 1, 1, 7);
        choice(y, 2, 0, -1);
        WallMirror z = Due.mirror("Q100P0000P9000P7000P9000");
        // as above for three: 3 stays at 9 only if both ahead are at 7 or less
        choice(z, 1, 2, 7);
        choice(z, 2, 0, 7);
        choice(z, 3, 0, -1);
    }

    // ---- measures

    /** "By how many rows of WEIGHTS (0 .. 9 each, not all 0)": 999 at most, and none of one that has its like. */
    private static void noMeasureAndAll() {
        Due.due("measures(0) of one of no VALUE", Due.mirror("Q111P0000").measures(0), 999);
        WallMirror x = Due.mirror("Q111P1110P0000P0000P0000P0000P0000");
        Due.due("measures(0) above all", x.measures(0), 999);
        Due.due("measures(5) below", x.measures(5), 0);
        WallMirror y = Due.mirror("Q111P9990P9990");
        Due.due("measures(0) of two alike", y.measures(0), 0);
        Due.due("measures(1) of two alike", y.measures(1), 0);
        y.hunt(1, true);
        Due.due("measures(0) of two alike, one REPORTED", y.measures(0), 0);
        y.undo();
        y.hunt(1, false);
        Due.due("measures(0) of two alike, one dead", y.measures(0), 999);
    }

    /** One row alone: by WEIGHTS a, b, c she is above both if 2c > a + 5b and 3b > 2a + c, that is by 0 3 8. */
    private static void oneMeasure() {
        for (String weights : new String[] {"111", "038", "999", "900", "001"}) {
            WallMirror x = Due.mirror("Q" + weights + "P0440P1920P2150");
            Due.due("measures(0) of one row by " + weights, x.measures(0), 1);
            Due.due("nearest(0) of one row by " + weights, x.nearest(0), 38);
        }
    }

    /** "FAIREST ALONE": rows by which another one is as high are none. */
    private static void aloneNotBeside() {
        WallMirror x = Due.mirror("Q111P1000P0100");
        Due.due("measures(0) of 1 0 0", x.measures(0), 450);
        Due.due("measures(1) of 0 1 0", x.measures(1), 450);
        WallMirror y = Due.mirror("Q111P1000P0000");
        Due.due("measures(0) beside nothing", y.measures(0), 900);
        Due.due("measures(1) of nothing", y.measures(1), 0);
    }

    // ---- nearest

    /** The row that there is, if one is FAIREST ALONE by it, be it the first or the last of all. */
    private static void nearestIsWhatThereIs() {
        for (int row : new int[] {1, 10, 100, 345, 990, 998, 999}) {
            String figures = "" + row / 100 + row / 10 % 10 + row % 10;
            Due.due("nearest(0) by " + row, Due.mirror("Q" + figures + "P1110P0000").nearest(0), row);
            Due.due("nearest(1) by " + row, Due.mirror("Q" + figures + "P1110P2220").nearest(1), row);
        }
    }

    /** "Of like ones the first by MARKS": the least WEIGHT of MARK 0, then of 1, then of 2. */
    private static void nearestOfLikeOnes() {
        Due.due("5 4 5 ahead of 6 5 5", Due.mirror("Q555P1000P0100").nearest(0), 545);
        Due.due("4 5 5 ahead of 5 6 5", Due.mirror("Q555P0100P1000").nearest(0), 455);
        Due.due("5 4 5 ahead of 5 5 6", Due.mirror("Q555P0010P0100").nearest(0), 545);
        Due.due("5 5 4 ahead of 5 6 5", Due.mirror("Q555P0100P0010").nearest(0), 554);
        Due.due("0 4 5 ahead of all 6 apart", Due.mirror("Q555P4450P5540P0000P5000").nearest(0), 45);
        Due.due("0 0 1 ahead of 1 0 2", Due.mirror("Q100P0010P1000").nearest(0), 1);
    }

    /** "0 .. 9 each, not all 0": no row is beyond the figures. */
    private static void nearestWithinTheFigures() {
        Due.due("no 10 9 9", Due.mirror("Q999P1000P0100").nearest(0), 989);
        Due.due("no 9 10 9", Due.mirror("Q999P0100P1000").nearest(0), 899);
        Due.due("no 9 9 10", Due.mirror("Q999P0010P0100").nearest(0), 989);
        Due.due("no 0 -1 9", Due.mirror("Q009P1000P0100").nearest(0), 109);
        Due.due("no 0 0 0", Due.mirror("Q010P0010P0100").nearest(0), 1);
        Due.due("no 0 0 0, either", Due.mirror("Q001P1000P0010").nearest(0), 100);
    }

    /** "Differ least (three differences together)": far ways, on which all but the first by MARKS are like ones. */
    private static void nearestFarAway() {
        Due.due("from 0 0 9", Due.mirror("Q009P1000P0010").nearest(0), 100);
        Due.due("from 9 0 0", Due.mirror("Q900P0010P1000").nearest(0), 1);
        Due.due("from 9 9 0", Due.mirror("Q990P0010P9900").nearest(0), 1);
        Due.due("from 0 9 9", Due.mirror("Q099P1000P0990").nearest(0), 100);
    }

    /** "NONE: there is none". */
    private static void noNearest() {
        Due.due("nearest(0) of two alike", Due.mirror("Q111P5550P5550").nearest(0), NONE);
        Due.due("nearest(0) of two without VALUE", Due.mirror("Q111P0000P0000").nearest(0), NONE);
        Due.due("nearest(0) of one below", Due.mirror("Q111P4440P5550").nearest(0), NONE);
        WallMirror x = Due.mirror("Q321P4440P5550");
        x.hunt(1, false);
        Due.due("nearest(0), that one dead", x.nearest(0), 321);
    }

    // ---- reign

    private static void reignOf(WallMirror x, String told, int byYears, int byMornings) {
        Due.due("reign(false) of " + told, x.reign(false), byYears);
        Due.due("reign(true) of " + told, x.reign(true), byMornings);
    }

    /** "0: now": she is not FAIREST, or not ALONE. */
    private static void reignIsOver() {
        reignOf(Due.mirror("Q111P5550P6660"), "one below", 0, 0);
        reignOf(Due.mirror("Q111P5550P5550"), "one beside", 0, 0);
        reignOf(Due.mirror("Q111P0000P0000"), "nothing beside nothing", 0, 0);
        WallMirror x = Due.mirror("Q111P5550P6660P4440");
        x.hunt(1, true);
        reignOf(x, "one below a REPORTED one", 0, 0);
        x.undo();
        x.hunt(1, false);
        reignOf(x, "one above", NONE, NONE);
    }

    /** "First not FAIREST ALONE": she ages to be as high as another one; by YEARS alone within 9 of them. */
    private static void reignOfYears() {
        for (int mark = 1; mark <= 9; mark++) {
            String queen = "Q100P" + mark + "00";
            int half = (mark + 1) / 2;
            reignOf(Due.mirror(queen + "1P0000"), "MARK " + mark + ", AGEING 1", mark, mark);
            reignOf(Due.mirror(queen + "2P0000"), "MARK " + mark + ", AGEING 2", half, half);
            reignOf(Due.mirror(queen + "0P0000"), "MARK " + mark + ", AGEING 0", NONE, NONE);
            reignOf(Due.mirror(queen + "1P0001"), "MARK " + mark + ", both age", mark, mark);
        }
        reignOf(Due.mirror("Q100P9002P8000"), "one that is passed by", 1, 1);
        reignOf(Due.mirror("Q100P9002P7000"), "one that is reached", 1, 1);
        reignOf(Due.mirror("Q100P9002P6000"), "one that is passed by later", 2, 2);
    }

    /**
     * "0 .. 30", "NONE: not so soon". She has 8 8 8, and of the four others the last one is feared first and moves
     * nothing, for 4 mornings (5 with a MARK more); then the others take a WEIGHT a morning, from 9 9 9 down to 0 0 1,
     * by which the second one is above her: behind 4 + 26 mornings, or 5 + 26.
     */
    private static void reignOfThirtyYears() {
        reignOf(Due.mirror("Q999P8880P0090P0900P9000P6661"), "29 years", NONE, 29);
        reignOf(Due.mirror("Q999P8880P0090P0900P9000P7761"), "30 years", NONE, 30);
        reignOf(Due.mirror("Q999P8880P0090P0900P9000P8871"), "31 years", NONE, NONE);
        WallMirror x = Due.mirror("Q999P8880P0090P0900P9000P8871");
        x.morning();
        x.year();
        reignOf(x, "31 years, one of them gone by", NONE, 30);
    }

    /** She alone is FAIREST ALONE for ever, whatever she ages. */
    private static void reignWithoutRivals() {
        reignOf(Due.mirror("Q111P0000"), "one of no VALUE", NONE, NONE);
        reignOf(Due.mirror("Q111P9992"), "one that ages", NONE, NONE);
        WallMirror x = Due.mirror("Q111P9992P8880P8880P8880P8880P8880");
        for (int person = 1; person <= 5; person++) {
            x.hunt(person, false);
        }
        reignOf(x, "one whose rivals are dead", NONE, NONE);
        x.undo();
        reignOf(x, "one with a rival left", 1, 1);
    }

    /** "By a MORNING ahead of each YEAR": 1 is feared ahead of its ageing, so 2 is beside her; behind it, it is not. */
    private static void morningAheadOfTheYear() {
        reignOf(Due.mirror("Q110P5500P6002P0500"), "a morning ahead", NONE, 1);
        WallMirror x = Due.mirror("Q110P5500P6002P0500");
        x.year();
        reignOf(x, "a year ahead", NONE, NONE);
    }

    // ---- differs, rate

    /** Nobody differs by the same WEIGHTS, by their like, or if all are alike. */
    private static void glassesThatDoNotDiffer() {
        WallMirror x = Due.mirror("Q123P1230P3210P2220");
        Due.due("differs(123)", x.differs(123), 0);
        Due.due("differs(246)", x.differs(246), 0);
        Due.due("differs(369)", x.differs(369), 0);
        WallMirror y = Due.mirror("Q111P1110P1110");
        Due.due("differs(1) of two alike", y.differs(1), 0);
        Due.due("differs(999) of two alike", y.differs(999), 0);
        Due.due("differs(100) of one", Due.mirror("Q001P0090").differs(100), 0);
        Due.due("differs(1) of nobody", Due.mirror("Q111").differs(1), 0);
        Due.due("differs(999) of nobody", Due.mirror("Q111").differs(999), 0);
    }

    /** "Who is FAIREST by one of both, not by the other one": all six, one, those that are beside others by one. */
    private static void glassesThatDifferInAll() {
        WallMirror x = Due.mirror("Q100P1000P0100P1000P0100P1000P0100");
        Due.due("differs(10) of six", x.differs(10), 63);
        Due.due("differs(110) of six", x.differs(110), 42);
        Due.due("differs(1) of six", x.differs(1), 42);
        Due.due("differs(999) of six", x.differs(999), 42);
        Due.due("differs(210) of six", x.differs(210), 0);
        x.hunt(1, false);
        x.hunt(2, true);
        Due.due("differs(10), one dead and one REPORTED", x.differs(10), 61);
        WallMirror y = Due.mirror("Q001P0090P0900P9000");
        Due.due("differs(1)", y.differs(1), 0);
        Due.due("differs(10)", y.differs(10), 3);
        Due.due("differs(100)", y.differs(100), 5);
        Due.due("differs(999)", y.differs(999), 6);
    }

    private static void rateOf(String text, int above, int below, int aboveOther, int belowOther) {
        WallMirror x = Due.mirror(text);
        Due.fraction("rate(0, 1) of " + text, x.rate(0, 1, true), x.rate(0, 1, false), above, below);
        Due.fraction("rate(1, 0) of " + text, x.rate(1, 0, true), x.rate(1, 0, false), aboveOther, belowOther);
    }

    /** "In least terms": never is 0 of 1, always is 1 of 1; as high is not more. */
    private static void rateOfNoneAndAll() {
        rateOf("Q111P1110P0000", 1, 1, 0, 1);
        rateOf("Q111P0000P0000", 0, 1, 0, 1);
        rateOf("Q100P9990P9990", 0, 1, 0, 1);
        rateOf("Q001P0000P9990", 0, 1, 1, 1);
    }

    /** The fewest rows that can be (9 of 999), and what has no lesser terms. */
    private static void rateOfFewAndMany() {
        rateOf("Q111P0010P9900", 1, 111, 988, 999);
        rateOf("Q111P1000P0100", 50, 111, 50, 111);
        rateOf("Q999P1000P0000", 100, 111, 0, 1);
        rateOf("Q001P0010P0000", 100, 111, 0, 1);
    }

    /** "Whether they are alive or not": also by WEIGHTS that are not those of the court. */
    private static void rateOfTheDead() {
        WallMirror x = Due.mirror("Q001P0090P1000P0100P1110");
        x.hunt(1, false);
        x.hunt(2, false);
        Due.fraction("rate(1, 2) of two dead", x.rate(1, 2, true), x.rate(1, 2, false), 50, 111);
        Due.fraction("rate(1, 3) of one dead", x.rate(1, 3, true), x.rate(1, 3, false), 0, 1);
        Due.fraction("rate(3, 2) of one dead", x.rate(3, 2, true), x.rate(3, 2, false), 110, 111);
        x.hunt(3, true);
        Due.fraction("rate(3, 2) of one REPORTED", x.rate(3, 2, true), x.rate(3, 2, false), 110, 111);
    }
}
