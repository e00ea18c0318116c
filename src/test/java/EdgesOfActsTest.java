/** The boundary cases of the promises 8 to 12, a test each; what is refused there is in RefusalsTest. */
public final class EdgesOfActsTest {
    private static final int LATE = WallMirror.LATE;

    public static void main(String[] args) {
        noOtherOneToFear();
        theLeastOfLikeRivals();
        aboveHerAndNotAsHigh();
        byMostAndTheLeastOfLike();
        noWeightToLose();
        theLastWeight();
        weightsToTheirEnd();
        rivalsDeadOrReported();
        fairestAheadOfTheMove();
        marksAtNothing();
        yearsOfTheDead();
        yearsOfNobody();
        plainToNothing();
        plainOfAll();
        huntToTheLast();
        liesAndDeaths();
        fullRowOfActs();
        rowThatIsJustFull();
        rowThatCameRound();
        roomBehindUndo();
        undoOfEach();
        Due.end();
    }

    private static void weightsBehind(String text, int fairest, int weights) {
        weightsBehind(Due.mirror(text), text, fairest, weights);
    }

    /** A morning counts and is an ACT, whatever it moves, and it moves nothing but WEIGHTS. */
    private static void weightsBehind(WallMirror x, String told, int fairest, int weights) {
        int mornings = x.about(4);
        int acts = x.about(7);
        int before = x.about(6);
        Due.due("morning() of " + told, x.morning(), fairest);
        Due.due("WEIGHTS behind it, " + told, x.about(6), weights);
        Due.due("MORNINGS behind it, " + told, x.about(4), mornings + 1);
        Due.due("ACTS behind it, " + told, x.about(7), acts + 1);
        Due.due("undo() of it, " + told, x.undo(), acts);
        Due.due("WEIGHTS behind undo, " + told, x.about(6), before);
        Due.due("MORNINGS behind undo, " + told, x.about(4), mornings);
    }

    // ---- morning

    /** "FEARS of the others that are alive the one of greatest VALUE (..; if there is one)". */
    private static void noOtherOneToFear() {
        weightsBehind("Q321P0000", 1, 321);
        weightsBehind("Q321P9990", 1, 321);
        WallMirror x = Due.mirror("Q321P0000P9990P9990");
        x.hunt(1, false);
        x.hunt(2, false);
        weightsBehind(x, "her whose rivals are dead", 1, 321);
    }

    /** "(of like ones the least ..)": of rivals of like VALUE the one of the least number is feared. */
    private static void theLeastOfLikeRivals() {
        weightsBehind("Q111P0000P1000P0100P0010", 14, 11);
        weightsBehind("Q111P0000P0100P1000P0010", 14, 101);
        weightsBehind("Q111P0000P0010P1000P0100", 14, 110);
        weightsBehind("Q111P0000P0000P0010P0010P0010P1000", 60, 110);
        weightsBehind("Q121P0000P1000P0010P0100", 8, 111);
        weightsBehind("Q119P0000P9000P0010", 6, 19);
    }

    /** "Of the others": she does not fear herself; "that one is above her": a MARK as high is not above. */
    private static void aboveHerAndNotAsHigh() {
        weightsBehind("Q111P5550P5550", 3, 111);
        weightsBehind("Q111P5550P4440", 1, 111);
        weightsBehind("Q111P5550P0600", 1, 101);
        weightsBehind("Q111P9990P9990", 3, 111);
        weightsBehind("Q111P5550P5560", 2, 110);
        weightsBehind("Q111P0000P0000", 3, 111);
        weightsBehind("Q111P8890P0090P9000", 1, 111);
        weightsBehind("Q112P8880P0090P9000", 1, 111);
    }

    /** "The one by most (of like ones the least)": by MARKS themselves. */
    private static void byMostAndTheLeastOfLike() {
        weightsBehind("Q555P0000P1110", 2, 455);
        weightsBehind("Q555P0000P1220", 2, 545);
        weightsBehind("Q555P0000P1230", 2, 554);
        weightsBehind("Q555P0000P2120", 2, 455);
        weightsBehind("Q555P1000P9890", 2, 554);
        weightsBehind("Q555P0900P9990", 2, 455);
        weightsBehind("Q955P0000P1200", 2, 945);
        weightsBehind("Q555P5550P6740", 2, 545);
        weightsBehind("Q555P9000P0980", 2, 545);
    }

    /** "Has a WEIGHT of 1 less, if it has one (else nothing)": then no other MARK is looked at. */
    private static void noWeightToLose() {
        weightsBehind("Q055P0000P9880", 2, 55);
        weightsBehind("Q505P0000P8980", 2, 505);
        weightsBehind("Q550P0000P8890", 2, 550);
        weightsBehind("Q055P0000P1110", 2, 55);
        weightsBehind("Q005P0000P1110", 2, 5);
        weightsBehind("Q011P0000P1000", 3, 11);
    }

    /** "And not all would be 0 then": one WEIGHT of 1 alone stays; beside another, or of 2, it goes. */
    private static void theLastWeight() {
        weightsBehind("Q100P0000P1000", 2, 100);
        weightsBehind("Q010P0000P0100", 2, 10);
        weightsBehind("Q001P0000P0010", 2, 1);
        weightsBehind("Q200P0000P1000", 2, 100);
        weightsBehind("Q020P0000P0100", 2, 10);
        weightsBehind("Q002P0000P0010", 2, 1);
        weightsBehind("Q110P0000P1000", 2, 10);
        weightsBehind("Q011P0000P0100", 2, 1);
        weightsBehind("Q101P0000P0010", 2, 100);
        weightsBehind("Q109P0000P9000", 2, 9);
    }

    /** WEIGHTS of 9 each go down one a morning, until but one is left. */
    private static void weightsToTheirEnd() {
        WallMirror x = Due.mirror("Q999P0000P9000P0900P0090");
        int[] weights = {9, 9, 9};
        for (int morning = 1; morning <= 26; morning++) {
            int feared = 0;
            int fairest = 0;
            for (int mark = 0; mark < 3; mark++) {
                feared = weights[mark] > weights[feared] ? mark : feared;
            }
            for (int mark = 0; mark < 3; mark++) {
                fairest |= weights[mark] == weights[feared] ? 2 << mark : 0;
            }
            Due.due("morning() " + morning, x.morning(), fairest);
            weights[feared]--;
            Due.due("WEIGHTS", x.about(6), weights[0] * 100 + weights[1] * 10 + weights[2]);
        }
        for (int morning = 27; morning <= 30; morning++) {
            Due.due("morning() " + morning, x.morning(), 8);
            Due.due("WEIGHTS", x.about(6), 1);
            Due.due("MORNINGS", x.about(4), morning);
        }
    }

    /** "Of the others that are alive": not the dead, but one REPORTED that is alive. */
    private static void rivalsDeadOrReported() {
        WallMirror x = Due.mirror("Q111P0000P9000P0800P0070");
        x.hunt(1, true);
        weightsBehind(x, "one REPORTED", 2, 11);
        x.undo();
        x.hunt(1, false);
        weightsBehind(x, "one dead", 4, 101);
        x.hunt(2, false);
        weightsBehind(x, "two dead", 8, 110);
    }

    /** "A MORNING: who is FAIREST": by WEIGHTS as they are ahead of its move. */
    private static void fairestAheadOfTheMove() {
        WallMirror x = Due.mirror("Q110P0000P2000P0100");
        Due.due("morning()", x.morning(), 2);
        Due.due("WEIGHTS", x.about(6), 10);
        Due.due("morning()", x.morning(), 4);
        Due.due("WEIGHTS", x.about(6), 10);
    }

    // ---- year

    /** "Each MARK of each one alive is less by its AGEING (0 at least)". */
    private static void marksAtNothing() {
        WallMirror x = Due.mirror("Q111P0122P9870");
        Due.due("year()", x.year(), 1);
        Due.marks(x, 0, 0, 0, 0);
        Due.marks(x, 1, 9, 8, 7);
        WallMirror y = Due.mirror("Q111P0121P3452P9990P9992");
        int[][] queen = {{0, 0, 1}, {0, 0, 0}, {0, 0, 0}, {0, 0, 0}, {0, 0, 0}};
        int[][] second = {{1, 2, 3}, {0, 0, 1}, {0, 0, 0}, {0, 0, 0}, {0, 0, 0}};
        for (int year = 0; year < 5; year++) {
            Due.due("year()", y.year(), year + 1);
            Due.marks(y, 0, queen[year][0], queen[year][1], queen[year][2]);
            Due.marks(y, 1, second[year][0], second[year][1], second[year][2]);
            Due.marks(y, 2, 9, 9, 9);
            int last = Math.max(0, 9 - 2 * (year + 1));
            Due.marks(y, 3, last, last, last);
        }
    }

    /** "Of each one alive": the dead do not age, those REPORTED that are alive do. */
    private static void yearsOfTheDead() {
        WallMirror x = Due.mirror("Q111P5551P5551P5552P5552");
        x.hunt(1, false);
        x.hunt(2, true);
        x.year();
        Due.marks(x, 0, 4, 4, 4);
        Due.marks(x, 1, 5, 5, 5);
        Due.marks(x, 2, 3, 3, 3);
        Due.marks(x, 3, 3, 3, 3);
        x.hunt(3, false);
        x.year();
        Due.marks(x, 0, 3, 3, 3);
        Due.marks(x, 1, 5, 5, 5);
        Due.marks(x, 2, 1, 1, 1);
        Due.marks(x, 3, 3, 3, 3);
    }

    /** A YEAR goes by though there is nobody, and is an ACT. */
    private static void yearsOfNobody() {
        WallMirror x = new WallMirror();
        for (int year = 1; year <= 20; year++) {
            Due.due("year() of nobody", x.year(), year);
            Due.due("ACTS", x.about(7), Math.min(14, year));
        }
        for (int left = 13; left >= 0; left--) {
            Due.due("undo()", x.undo(), left);
            Due.due("YEARS", x.about(5), left + 6);
        }
        Due.due("undo()", x.undo(), LATE);
    }

    // ---- plain, hunt

    /** "LATE: .. the MARK is 0": from 9 down to 0 it is not, and no other MARK moves. */
    private static void plainToNothing() {
        for (int mark = 0; mark < 3; mark++) {
            WallMirror x = Due.mirror("Q111P9990P9990");
            for (int left = 8; left >= 0; left--) {
                Due.due("plain(1, " + mark + ")", x.plain(1, mark), left);
                Due.due("the MARK then", x.person(1, mark), left);
            }
            Due.due("plain(1, " + mark + ") of 0", x.plain(1, mark), LATE);
            Due.due("plain(1, " + mark + ") of 0 again", x.plain(1, mark), LATE);
            Due.due("ACTS", x.about(7), 9);
            Due.marks(x, 1, mark == 0 ? 0 : 9, mark == 1 ? 0 : 9, mark == 2 ? 0 : 9);
            Due.marks(x, 0, 9, 9, 9);
            x.undo();
            Due.due("plain(1, " + mark + ") of 1 again", x.plain(1, mark), 0);
        }
    }

    /** "One alive": the first and the last person, each MARK, also one REPORTED that is alive. */
    private static void plainOfAll() {
        WallMirror x = Due.mirror("Q111P1230P4560P7890P1230P4560P7890");
        x.hunt(5, true);
        x.hunt(4, true);
        int[][] told = {{1, 2, 3}, {4, 5, 6}, {7, 8, 9}, {1, 2, 3}, {4, 5, 6}, {7, 8, 9}};
        for (int person = 0; person < 6; person++) {
            for (int mark = 0; mark < 3; mark++) {
                Due.due("plain(" + person + ", " + mark + ")", x.plain(person, mark), told[person][mark] - 1);
            }
        }
        for (int person = 0; person < 6; person++) {
            Due.marks(x, person, told[person][0] - 1, told[person][1] - 1, told[person][2] - 1);
        }
    }

    /** "How many are alive then": down to THE QUEEN alone, who can't be hunted. */
    private static void huntToTheLast() {
        WallMirror x = Due.mirror("Q111P1110P1110P1110P1110P1110P1110");
        int alive = 63;
        for (int person = 5; person >= 1; person--) {
            alive &= ~(1 << person);
            Due.due("hunt(" + person + ", false)", x.hunt(person, false), person);
            Due.due("alive", x.about(1), alive);
            Due.due("REPORTED", x.about(2), 63 & ~alive);
        }
        Due.due("hunt(0, false)", x.hunt(0, false), WallMirror.BAD);
        Due.due("alive", x.about(1), 1);
        Due.due("ACTS", x.about(7), 5);
    }

    /** "It is dead, if the huntsman does not LIE": it is REPORTED by both, and can't be hunted once more. */
    private static void liesAndDeaths() {
        WallMirror x = Due.mirror("Q111P1110P1110P1110P1110P1110P1110");
        for (int person = 1; person <= 5; person++) {
            Due.due("hunt(" + person + ", true)", x.hunt(person, true), 6);
        }
        Due.due("alive", x.about(1), 63);
        Due.due("REPORTED", x.about(2), 62);
        for (int person = 1; person <= 5; person++) {
            Due.due("hunt(" + person + ", false) of one REPORTED", x.hunt(person, false), LATE);
        }
        x.undo();
        Due.due("REPORTED, one undone", x.about(2), 30);
        Due.due("hunt(5, false)", x.hunt(5, false), 5);
        Due.due("hunt(5, true) of a dead one", x.hunt(5, true), LATE);
        Due.due("alive", x.about(1), 31);
        Due.due("REPORTED", x.about(2), 62);
    }

    // ---- undo

    /** "14 at most; when it is full, the first one is forgotten": one ACT more, one less to go back by. */
    private static void fullRowOfActs() {
        for (int more = 0; more <= 16; more++) {
            WallMirror x = Due.mirror("Q111P1110P1110");
            for (int year = 1; year <= 14 + more; year++) {
                x.year();
            }
            Due.due("ACTS", x.about(7), 14);
            for (int left = 13; left >= 0; left--) {
                Due.due("undo() behind " + (14 + more), x.undo(), left);
                Due.due("YEARS", x.about(5), left + more);
            }
            Due.due("undo() of what is forgotten", x.undo(), LATE);
            Due.due("YEARS", x.about(5), more);
            Due.due("ACTS", x.about(7), 0);
        }
    }

    /** Of 14 none is forgotten: all are undone, back to the court as it was told. */
    private static void rowThatIsJustFull() {
        WallMirror x = Due.mirror("Q987P9872P9882P9992P7892");
        String first = Due.seen(x);
        x.morning();
        x.year();
        x.plain(0, 0);
        x.hunt(1, true);
        x.plain(1, 1);
        x.hunt(2, false);
        x.plain(3, 2);
        x.morning();
        x.morning();
        x.year();
        x.hunt(3, false);
        x.morning();
        x.year();
        x.year();
        Due.due("ACTS", x.about(7), 14);
        for (int left = 13; left >= 0; left--) {
            Due.due("undo()", x.undo(), left);
        }
        Due.due("what is seen", Due.seen(x), first);
        Due.due("undo()", x.undo(), LATE);
    }

    /** Long rows that came round more than once, each ACT undone to what was seen ahead of it. */
    private static void rowThatCameRound() {
        WallMirror x = Due.mirror("Q999P9990P9990");
        int[] values = new int[60];
        for (int act = 0; act < 45; act++) {
            values[act] = x.person(act % 2, 6) * 1000 + x.about(5);
            if (act % 5 == 4) {
                x.year();
            } else {
                x.plain(act % 2, act / 2 % 3);
            }
        }
        for (int back = 1; back <= 14; back++) {
            int act = 45 - back;
            Due.due("undo()", x.undo(), 14 - back);
            Due.due("what was ahead of act " + act, x.person(act % 2, 6) * 1000 + x.about(5), values[act]);
        }
        Due.due("undo()", x.undo(), LATE);
    }

    /** Undone ACTS make room: the first one is forgotten only when there are 14 once more, and none comes again. */
    private static void roomBehindUndo() {
        WallMirror x = Due.mirror("Q111P9990P9990");
        for (int act = 0; act < 14; act++) {
            x.year();
        }
        x.undo();
        x.undo();
        x.plain(0, 0);
        x.plain(0, 1);
        Due.due("ACTS", x.about(7), 14);
        Due.due("undo()", x.undo(), 13);
        Due.marks(x, 0, 8, 9, 9);
        x.plain(0, 2);
        for (int left = 13; left >= 0; left--) {
            Due.due("undo()", x.undo(), left);
        }
        Due.due("YEARS, none forgotten", x.about(5), 0);
        Due.marks(x, 0, 9, 9, 9);
        for (int act = 0; act < 15; act++) {
            x.year();
            x.undo();
            Due.due("ACTS, each undone at once", x.about(7), 0);
        }
        x.plain(1, 0);
        Due.due("undo()", x.undo(), 0);
        Due.due("undo()", x.undo(), LATE);
        Due.due("YEARS", x.about(5), 0);
    }

    /** "The last one can be undone": all that each kind changed, and nothing that is no ACT. */
    private static void undoOfEach() {
        WallMirror x = Due.mirror("Q321P5551P6402P2700");
        x.hear(1, false);
        x.seed(8);
        x.write('P');
        String before = Due.seen(x);
        x.morning();
        Due.due("undo() of a morning", x.undo(), 0);
        Due.due("what is seen", Due.seen(x), before);
        x.year();
        Due.due("undo() of a year", x.undo(), 0);
        Due.due("what is seen", Due.seen(x), before);
        x.plain(2, 1);
        Due.due("undo() of plain", x.undo(), 0);
        Due.due("what is seen", Due.seen(x), before);
        x.hunt(2, true);
        Due.due("undo() of a lie", x.undo(), 0);
        Due.due("what is seen", Due.seen(x), before);
        x.hunt(2, false);
        x.hear(2, true);
        x.seed(9);
        x.write('1');
        Due.due("undo() of a hunt", x.undo(), 0);
        Due.due("alive", x.about(1), 7);
        Due.due("REPORTED", x.about(2), 0);
        Due.due("HEARD stays", x.about(8), 2);
        Due.due("bytes of THE TEXT stay", x.about(9), 21);
        Due.due("THE SEED stays", x.seed(0), 9);
        x.keep(0);
        x.year();
        x.undo();
        Due.due("what was kept stays", x.again(0), 3);
    }
}
