/** The boundary cases of the promises 13 to 18, a test each; what is refused there is in RefusalsTest. */
public final class EdgesOfMayBeTest {
    private static final int NONE = WallMirror.NONE;

    public static void main(String[] args) {
        rowsOfOneAndOfEight();
        firstThatIsNotSo();
        highestFigureFirst();
        greatestRows();
        toldOfNoPerson();
        toldOfTheDead();
        toldOfSeveral();
        toldOfNobody();
        weightsMoveWhileTold();
        sixHeard();
        eachOfSixIsLookedAt();
        nothingHeard();
        heardOfThoseNoMoreThere();
        heardOfOneNotAlive();
        heardAsTheyAreWhenAsked();
        noSet();
        noneOrAllReported();
        whoIsInAll();
        askNobody();
        askThoughTheFewerAreNone();
        askTheLeastOfLike();
        askTheFewerThatAreMost();
        noneOfNoThings();
        fewerThanTheFairest();
        asManyAsAreAlive();
        theGreatestAsBits();
        Due.end();
    }

    // ---- judged

    /** "n (1 .. 8)": one MORNING and eight of them; "NONE: all are so". */
    private static void rowsOfOneAndOfEight() {
        WallMirror x = Due.mirror("Q999P1110P2220P1110");
        int row = 0;
        for (int n = 1; n <= 8; n++) {
            row = row * 10 + 1;
            Due.due("judged(" + n + ", " + row + ")", x.judged(n, row), NONE);
        }
        Due.due("judged(8, 11111110)", x.judged(8, 11111110), 7);
        Due.due("judged(8, 1111111)", x.judged(8, 1111111), 0);
        Due.due("judged(7, 1111111)", x.judged(7, 1111111), NONE);
        Due.due("judged(1, 0)", x.judged(1, 0), 0);
    }

    /** "The first that is not so", "that place (from 0)": each place of eight, whatever comes behind it. */
    private static void firstThatIsNotSo() {
        WallMirror x = Due.mirror("Q999P1110P2220P1110");
        int figure = 1;
        for (int place = 7; place >= 0; place--) {
            Due.due("one wrong at " + place, x.judged(8, 11111111 + figure), place);
            Due.due("wrong from " + place, x.judged(8, 11111111 / (figure * 10) * (figure * 10)), place);
            figure *= 10;
        }
    }

    /** "A row of n figures, the highest first": a row of fewer figures begins with figures 0, which tell THE QUEEN. */
    private static void highestFigureFirst() {
        WallMirror x = Due.mirror("Q210P5000P0900");
        // she is 10 and the other one 9, then weights of 2 0 0 and no more move
        Due.due("judged(1, 0)", x.judged(1, 0), NONE);
        Due.due("judged(8, 0)", x.judged(8, 0), NONE);
        Due.due("judged(2, 1)", x.judged(2, 1), 1);
        Due.due("judged(2, 10)", x.judged(2, 10), 0);
        Due.due("judged(3, 1)", x.judged(3, 1), 2);
        Due.due("judged(3, 10)", x.judged(3, 10), 1);
        Due.due("judged(8, 1)", x.judged(8, 1), 7);
        Due.due("judged(8, 10000000)", x.judged(8, 10000000), 0);
        WallMirror y = Due.mirror("Q120P0500P5100");
        // 10 and 7, then the other's MARK 0 is feared: 020
        Due.due("judged(2, 0)", y.judged(2, 0), NONE);
        WallMirror z = Due.mirror("Q210P0500P3000");
        // 5 and 6, then 5 and 3
        Due.due("judged(2, 10)", z.judged(2, 10), NONE);
        Due.due("judged(2, 1)", z.judged(2, 1), 0);
        Due.due("judged(3, 100)", z.judged(3, 100), NONE);
        Due.due("judged(3, 10)", z.judged(3, 10), 0);
    }

    /** "Row (0 or more, n figures at most)": of n figures the greatest row is taken. */
    private static void greatestRows() {
        WallMirror x = Due.mirror("Q111P1110P2220");
        int row = 0;
        for (int n = 1; n <= 8; n++) {
            row = row * 10 + 9;
            Due.due("judged(" + n + ", " + row + ")", x.judged(n, row), 0);
            Due.due("judged(" + n + ", " + (row + 1) + ")", x.judged(n, row + 1), WallMirror.BAD);
            Due.due("judged(" + n + ", 0)", x.judged(n, 0), 0);
        }
    }

    /** A figure that tells of no PERSON (up to 9) is not so. */
    private static void toldOfNoPerson() {
        WallMirror x = Due.mirror("Q111P0000P0000P0000");
        WallMirror six = Due.mirror("Q111P0000P0000P0000P0000P0000P0000");
        for (int told = 0; told <= 9; told++) {
            Due.due("judged(1, " + told + ") of three", x.judged(1, told), told < 3 ? NONE : 0);
            Due.due("judged(2, " + told + ") of three", x.judged(2, told), told < 3 ? NONE : 1);
            Due.due("judged(1, " + told + ") of six", six.judged(1, told), told < 6 ? NONE : 0);
            Due.due("judged(8, " + told + ") of six", six.judged(8, told), told < 6 ? NONE : 7);
        }
    }

    /** One that is dead is not FAIREST; one REPORTED that is alive may be. */
    private static void toldOfTheDead() {
        WallMirror x = Due.mirror("Q111P1110P2220P3330");
        x.hunt(2, false);
        Due.due("judged(1, 2)", x.judged(1, 2), 0);
        Due.due("judged(1, 1)", x.judged(1, 1), NONE);
        x.hunt(1, true);
        Due.due("judged(1, 1) REPORTED", x.judged(1, 1), NONE);
        Due.due("judged(1, 0)", x.judged(1, 0), 0);
    }

    /** "A PERSON that is told to be FAIREST": any one of several. */
    private static void toldOfSeveral() {
        WallMirror x = Due.mirror("Q001P1110P1110P0000P1110P0000P1110");
        for (int told = 0; told < 6; told++) {
            boolean so = told != 2 && told != 4;
            Due.due("judged(1, " + told + ")", x.judged(1, told), so ? NONE : 0);
            Due.due("judged(8, " + told + " eight times)", x.judged(8, 11111111 * told), so ? NONE : 0);
        }
        Due.due("judged(8, 1350135)", x.judged(8, 1350135), NONE);
        Due.due("judged(8, 1352135)", x.judged(8, 1352135), 4);
    }

    /** "If there is nobody, the first one". */
    private static void toldOfNobody() {
        WallMirror x = Made.nobody();
        int row = 0;
        for (int n = 1; n <= 8; n++) {
            Due.due("judged(" + n + ", 0)", x.judged(n, 0), 0);
            row = row * 10 + 9;
            Due.due("judged(" + n + ", " + row + ")", x.judged(n, row), 0);
        }
    }

    /** "WEIGHTS as they move", and those of the court stay; 8 MORNINGS move as much as 8 calls do. */
    private static void weightsMoveWhileTold() {
        WallMirror x = Due.mirror("Q333P1110P9000P0700P0060");
        int row = 0;
        for (int n = 1; n <= 8; n++) {
            int fairest = Integer.numberOfTrailingZeros(x.morning());
            row = row * 10 + fairest;
            WallMirror y = Due.mirror("Q333P1110P9000P0700P0060");
            Due.due("judged(" + n + ", " + row + ")", y.judged(n, row), NONE);
            Due.due("its WEIGHTS", y.about(6), 333);
            Due.due("its MORNINGS", y.about(4), 0);
        }
        Due.due("the row that was told", row, 12132312);
        WallMirror y = Due.mirror("Q333P1110P9000P0700P0060");
        y.morning();
        Due.due("judged(7, 2132312) behind a morning", y.judged(7, 2132312), NONE);
        Due.due("judged(8, 12132312) behind a morning", y.judged(8, 12132312), 0);
    }

    // ---- hear, unhear, worlds

    /** "6 such at most, none at first": the sixth is taken, the seventh not, and unheard there is room again. */
    private static void sixHeard() {
        WallMirror x = Due.mirror("Q111P1110P2220");
        Due.due("HEARD at first", x.about(8), 0);
        for (int times = 0; times < 2; times++) {
            for (int count = 1; count <= 6; count++) {
                Due.due("hear(1, true)", x.hear(1, true), count);
                Due.due("HEARD", x.about(8), count);
            }
            Due.due("hear(0, true) as the seventh", x.hear(0, true), WallMirror.FULL);
            Due.due("worlds(0): the seventh is not HEARD", x.worlds(0), 1);
            Due.due("unhear()", x.unhear(), 6);
        }
    }

    /** Each of the six counts, be it the first or the last. */
    private static void eachOfSixIsLookedAt() {
        for (int place = 0; place < 6; place++) {
            WallMirror x = Due.mirror("Q111P1110P2220P3330");
            x.hunt(2, true);
            for (int i = 0; i < 6; i++) {
                x.hear(0, false);
                x.unhear();
            }
            for (int i = 0; i < 6; i++) {
                Due.due("hear", x.hear(i == place ? 2 : 0, false), i + 1);
            }
            Due.due("worlds(0), " + place + " is of 2", x.worlds(0), 1);
            Due.due("worlds(1), " + place + " is of 2", x.worlds(1), 3);
        }
    }

    /** "Nothing was HEARD: how much there was": none, too. */
    private static void nothingHeard() {
        WallMirror x = Due.mirror("Q111P1110P2220");
        Due.due("unhear() of none", x.unhear(), 0);
        x.hear(0, true);
        Due.due("worlds(0)", x.worlds(0), 0);
        Due.due("unhear() of one", x.unhear(), 1);
        Due.due("unhear() again", x.unhear(), 0);
        Due.due("worlds(0)", x.worlds(0), 1);
        x.hear(1, true);
        Due.due("worlds(0): what was unheard does not come again", x.worlds(0), 1);
    }

    /** "Of PEOPLE that are not there any more nothing is looked at", until they are there once more. */
    private static void heardOfThoseNoMoreThere() {
        for (boolean is : new boolean[] {false, true}) {
            WallMirror x = Due.mirror("Q111P1110P1110P1110P1110P1110P1110");
            x.hear(5, is);
            x.hear(1, is);
            int all = is ? 1 : 0;
            Due.due("worlds(0) of six", x.worlds(0), all);
            Due.write(x, "Q111P1110P1110P1110P1110P1110");
            x.court();
            Due.due("worlds(0) of five, 1 is there", x.worlds(0), all);
            Due.write(x, "Q111P1110P1110");
            x.court();
            Due.due("worlds(0) of two, 1 is there", x.worlds(0), all);
            Due.write(x, "Q111P1110");
            x.court();
            Due.due("worlds(0) of one", x.worlds(0), 1);
            Due.due("worlds(1) of one", x.worlds(1), 1);
            Due.write(x, "Q111");
            x.court();
            Due.due("worlds(0) of nobody", x.worlds(0), 1);
            Due.due("worlds(1) of nobody", x.worlds(1), 0);
            Due.due("toAsk() of nobody", x.toAsk(), NONE);
            Due.due("HEARD", x.about(8), 2);
            Due.write(x, "Q111P1110P2220");
            x.court();
            Due.due("worlds(0) of two, 1 fairer", x.worlds(0), all);
            Due.write(x, "Q111P2220P1110");
            x.court();
            Due.due("worlds(0) of two, 1 plainer", x.worlds(0), 1 - all);
            Due.due("unhear()", x.unhear(), 2);
        }
    }

    /** "One that is not alive is not FAIREST": in sets without it, it is not, though it would be. */
    private static void heardOfOneNotAlive() {
        WallMirror x = Due.mirror("Q111P1110P9990P1110");
        x.hunt(1, false);
        x.hear(1, false);
        Due.due("worlds(0), 1 is not", x.worlds(0), 1);
        Due.due("worlds(1), 1 is not", x.worlds(1), 5);
        x.unhear();
        x.hear(1, true);
        Due.due("worlds(0), 1 is", x.worlds(0), 1);
        Due.due("worlds(1), 1 is", x.worlds(1), 7);
        x.unhear();
        x.hear(2, true);
        Due.due("worlds(1), 2 is one of two", x.worlds(1), 5);
        x.hear(0, true);
        Due.due("worlds(1), and she is one of two", x.worlds(1), 5);
        x.hear(0, false);
        Due.due("worlds(1), and she is none", x.worlds(1), NONE);
    }

    /** "By MARKS and WEIGHTS as they are when it is asked for": not as they were when it was heard. */
    private static void heardAsTheyAreWhenAsked() {
        WallMirror x = Due.mirror("Q210P0500P3002");
        x.hear(1, true);
        Due.due("worlds(0) at first", x.worlds(0), 1);
        x.morning();
        Due.due("worlds(0) a morning on", x.worlds(0), 0);
        x.undo();
        Due.due("worlds(0), it is undone", x.worlds(0), 1);
        x.year();
        Due.due("worlds(0) a year on", x.worlds(0), 0);
        x.undo();
        x.plain(1, 0);
        Due.due("worlds(0) when it is plainer", x.worlds(0), 0);
        x.undo();
        x.keep(0);
        x.hunt(1, true);
        Due.due("worlds(0) when it is REPORTED", x.worlds(0), 1);
        Due.due("worlds(1) when it is REPORTED", x.worlds(1), 3);
        x.again(0);
        x.plain(0, 1);
        x.plain(1, 0);
        Due.due("worlds(0) when she is as plain", x.worlds(0), 1);
    }

    /** "NONE (of 1): there is no set"; then how many there are is 0. */
    private static void noSet() {
        WallMirror x = Due.mirror("Q111P2220P1110P1110");
        x.hunt(1, true);
        x.hear(1, true);
        Due.due("worlds(0)", x.worlds(0), 0);
        Due.due("worlds(1)", x.worlds(1), NONE);
        Due.due("toAsk()", x.toAsk(), NONE);
        x.unhear();
        x.hear(0, true);
        x.hear(0, false);
        Due.due("worlds(0) of what contradicts itself", x.worlds(0), 0);
        Due.due("worlds(1) of what contradicts itself", x.worlds(1), NONE);
    }

    /** "All that are not REPORTED are alive; of REPORTED ones nobody knows": 1 set to 32, whether they lied or not. */
    private static void noneOrAllReported() {
        for (boolean lies : new boolean[] {false, true}) {
            WallMirror x = Due.mirror("Q111P1110P1110P1110P1110P1110P1110");
            Due.due("worlds(0), none REPORTED", x.worlds(0), 1);
            Due.due("worlds(1), none REPORTED", x.worlds(1), 63);
            int sets = 1;
            int known = 63;
            for (int person = 5; person >= 1; person--) {
                x.hunt(person, lies);
                sets *= 2;
                known &= ~(1 << person);
                Due.due("worlds(0) of " + person, x.worlds(0), sets);
                Due.due("worlds(1) of " + person, x.worlds(1), known);
            }
            Due.due("worlds(0), all REPORTED", x.worlds(0), 32);
            Due.due("worlds(1), all REPORTED", x.worlds(1), 1);
        }
    }

    /** "Who is alive in all of them": of one set all of it, of two what both have. */
    private static void whoIsInAll() {
        WallMirror x = Due.mirror("Q111P1110P2220P3330P4440");
        x.hunt(1, false);
        x.hunt(2, false);
        x.hunt(3, false);
        x.hear(3, true);
        Due.due("worlds(0), 3 is", x.worlds(0), 4);
        Due.due("worlds(1), 3 is", x.worlds(1), 9);
        x.unhear();
        x.hear(2, true);
        Due.due("worlds(0), 2 is", x.worlds(0), 2);
        Due.due("worlds(1), 2 is", x.worlds(1), 5);
        x.unhear();
        x.hear(1, true);
        Due.due("worlds(0), 1 is", x.worlds(0), 1);
        Due.due("worlds(1), 1 is", x.worlds(1), 3);
        x.unhear();
        x.hear(0, true);
        Due.due("worlds(0), she is", x.worlds(0), 1);
        Due.due("worlds(1), she is", x.worlds(1), 1);
        x.unhear();
        x.hear(0, false);
        Due.due("worlds(0), she is not", x.worlds(0), 7);
        Due.due("worlds(1), she is not", x.worlds(1), 1);
    }

    // ---- toAsk

    /** "NONE: there is no set, or nobody is REPORTED". */
    private static void askNobody() {
        WallMirror x = Due.mirror("Q111P1110P2220P3330");
        Due.due("toAsk(), nobody REPORTED", x.toAsk(), NONE);
        x.hear(0, true);
        Due.due("toAsk(), nobody REPORTED and no set", x.toAsk(), NONE);
        x.hunt(1, true);
        Due.due("toAsk(), no set", x.toAsk(), NONE);
        x.hunt(2, true);
        Due.due("toAsk(), a set", x.toAsk(), 1);
        x.undo();
        x.undo();
        x.unhear();
        Due.due("toAsk(), all undone", x.toAsk(), NONE);
    }

    /** "Also if the fewer are 0: the least REPORTED one". */
    private static void askThoughTheFewerAreNone() {
        WallMirror x = Due.mirror("Q111P1110P2220P3330P4440");
        x.hunt(3, true);
        x.hunt(2, false);
        x.hear(0, false);
        x.hear(1, true);
        Due.due("worlds(0)", x.worlds(0), 1);
        Due.due("toAsk(), both are dead", x.toAsk(), 2);
        x.unhear();
        x.hear(3, true);
        x.hear(2, true);
        Due.due("worlds(0)", x.worlds(0), 0);
        Due.due("toAsk(), no set", x.toAsk(), NONE);
        WallMirror y = Due.mirror("Q111P1110P2220P3330P3330");
        y.hunt(3, true);
        y.hunt(2, true);
        y.hear(3, true);
        y.hear(2, true);
        Due.due("worlds(0)", y.worlds(0), 1);
        Due.due("toAsk(), both are alive", y.toAsk(), 2);
        WallMirror z = Due.mirror("Q111P1110P1110P1110P1110P1110P2220");
        z.hunt(5, false);
        z.hear(5, true);
        Due.due("toAsk(), the last one alone", z.toAsk(), 5);
    }

    /** "Of like ones the least". */
    private static void askTheLeastOfLike() {
        WallMirror x = Due.mirror("Q111P1110P1110P1110P1110P1110P1110");
        for (int person = 5; person >= 1; person--) {
            x.hunt(person, person % 2 == 0);
            Due.due("toAsk(), " + person + " REPORTED last", x.toAsk(), person);
        }
    }

    /** "Of sets that fit the fewer of both kinds are most": fewer with it, or fewer without it. */
    private static void askTheFewerThatAreMost() {
        // 3 is fairest in all sets but those without it: of 8 sets she is not in 7
        WallMirror x = Due.mirror("Q111P2220P3330P3330P1110");
        x.hunt(1, true);
        x.hunt(2, true);
        x.hunt(3, true);
        x.hear(0, false);
        Due.due("worlds(0)", x.worlds(0), 6);
        // 1 and 2: 4 with, 2 without; 3: 3 and 3
        Due.due("toAsk()", x.toAsk(), 3);
        x.unhear();
        x.hear(1, false);
        Due.due("worlds(0)", x.worlds(0), 4);
        // 1: none and 4; 2: 2 and 2
        Due.due("toAsk() that knows of 1", x.toAsk(), 2);
        x.hear(2, false);
        Due.due("toAsk() that knows of 1 and 2", x.toAsk(), 3);
        x.hear(0, true);
        Due.due("toAsk() that it says nothing more to", x.toAsk(), 3);
    }

    // ---- answer

    private static void answers(WallMirror x, String told, int[] count, int[] widest) {
        for (int k = 0; k <= 6; k++) {
            Due.due("answer(" + k + ", false) of " + told, x.answer(k, false), count[k]);
            Due.due("answer(" + k + ", true) of " + told, x.answer(k, true), widest[k]);
        }
    }

    /** "None of k things: 0; USELESS NONE": of 0 things there is one only if there is nobody. */
    private static void noneOfNoThings() {
        answers(Due.mirror("Q111"), "nobody", new int[] {1, 0, 0, 0, 0, 0, 0},
            new int[] {0, NONE, NONE, NONE, NONE, NONE, NONE});
        answers(Due.mirror("Q111P0000"), "one", new int[] {0, 1, 0, 0, 0, 0, 0},
            new int[] {NONE, 1, NONE, NONE, NONE, NONE, NONE});
    }

    /** "In which all FAIREST are": of fewer things than FAIREST there is none. */
    private static void fewerThanTheFairest() {
        answers(Due.mirror("Q111P1110P1110P1110P1110P1110P1110"), "six alike", new int[] {0, 0, 0, 0, 0, 0, 1},
            new int[] {NONE, NONE, NONE, NONE, NONE, NONE, 63});
        answers(Due.mirror("Q111P0000P1110P0000P1110P1110P0000"), "three of six", new int[] {0, 0, 0, 1, 3, 3, 1},
            new int[] {NONE, NONE, NONE, 26, 58, 62, 63});
    }

    /** "Of those alive": the dead are in none, those REPORTED that are alive may be. */
    private static void asManyAsAreAlive() {
        WallMirror x = Due.mirror("Q111P1110P0000P0000P0000P0000P2220");
        answers(x, "six", new int[] {0, 1, 5, 10, 10, 5, 1}, new int[] {NONE, 32, 48, 56, 60, 62, 63});
        x.hunt(4, true);
        answers(x, "one REPORTED", new int[] {0, 1, 5, 10, 10, 5, 1}, new int[] {NONE, 32, 48, 56, 60, 62, 63});
        x.hunt(5, false);
        answers(x, "five", new int[] {0, 1, 4, 6, 4, 1, 0}, new int[] {NONE, 1, 17, 25, 29, 31, NONE});
        x.hunt(3, false);
        x.hunt(2, false);
        answers(x, "three", new int[] {0, 1, 2, 1, 0, 0, 0}, new int[] {NONE, 1, 17, 19, NONE, NONE, NONE});
    }

    /** "USELESS: that one which is the greatest as bits". */
    private static void theGreatestAsBits() {
        answers(Due.mirror("Q111P0000P1110P0000P0000P0000P0000"), "the second of six",
            new int[] {0, 1, 5, 10, 10, 5, 1}, new int[] {NONE, 2, 34, 50, 58, 62, 63});
        answers(Due.mirror("Q111P1110P0000P1110P0000"), "two of four",
            new int[] {0, 0, 1, 2, 1, 0, 0}, new int[] {NONE, NONE, 5, 13, 15, NONE, NONE});
    }
}
