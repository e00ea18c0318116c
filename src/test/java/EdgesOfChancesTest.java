import java.math.BigInteger;

/** The boundary cases of the promises 26 to 30, a test each; what is refused there is in RefusalsTest. */
public final class EdgesOfChancesTest {
    private static final String SIX = "Q100P1110P1110P1110P1110P1110P1110";

    public static void main(String[] args) {
        sayingsByNoneAndAllTenths();
        sayingsOfOneAlive();
        theLeastOfTheFairestIsNamed();
        sayingsOfTheDeadAreSharedOut();
        sayingsAddUpToOne();
        believedByNoneAndAllTenths();
        believedOfOneAlive();
        believedOfTwoAndOfSix();
        believedWhoeverIsFairest();
        chancesByNoneAndAllTenths();
        chancesOfOne();
        chancesIfNobodyIsReported();
        chancesOfThoseBesideHer();
        chancesOfFiveReported();
        chancesSetHeardAside();
        seedsOfAllKinds();
        oneHuntAndThirty();
        seedThatWraps();
        upperBits();
        huntsSpareTheQueen();
        huntsOfTheDead();
        huntsGoOn();
        huntsChangeNothingElse();
        Due.end();
    }

    private static void sayingOf(WallMirror x, int person, int tenths, int above, int below) {
        String call = "saying(" + person + ", " + tenths + ")";
        Due.fraction(call, x.saying(person, tenths, true), x.saying(person, tenths, false), above, below);
    }

    // ---- saying

    /** "With x tenths (0 .. 10)": 0 names any one, 10 names the least of the FAIREST for sure. */
    private static void sayingsByNoneAndAllTenths() {
        WallMirror x = Due.mirror("Q111P1110P2220P1110P0000");
        for (int person = 0; person < 4; person++) {
            sayingOf(x, person, 0, 1, 4);
            sayingOf(x, person, 10, person == 1 ? 1 : 0, 1);
        }
        sayingOf(x, 1, 1, 13, 40);
        sayingOf(x, 0, 1, 9, 40);
        sayingOf(x, 1, 9, 37, 40);
        sayingOf(x, 0, 9, 1, 40);
        sayingOf(x, 1, 2, 2, 5);
        sayingOf(x, 0, 2, 1, 5);
    }

    /** "Any one of those alive": if there is but one, it is always that one. */
    private static void sayingsOfOneAlive() {
        WallMirror x = Due.mirror("Q111P0000P9990");
        x.hunt(1, false);
        for (int tenths = 0; tenths <= 10; tenths++) {
            sayingOf(x, 0, tenths, 1, 1);
        }
    }

    /** "The least of those that are FAIREST": of several only that one is named by the tenths. */
    private static void theLeastOfTheFairestIsNamed() {
        WallMirror x = Due.mirror("Q111P0000P2220P2220P2220P0000P2220");
        for (int person = 0; person < 6; person++) {
            sayingOf(x, person, 10, person == 1 ? 1 : 0, 1);
            sayingOf(x, person, 4, person == 1 ? 1 : 1, person == 1 ? 2 : 10);
        }
        x.hunt(1, true);
        sayingOf(x, 1, 10, 1, 1);
        x.undo();
        x.hunt(1, false);
        sayingOf(x, 2, 10, 1, 1);
        sayingOf(x, 3, 10, 0, 1);
        sayingOf(x, 5, 10, 0, 1);
    }

    /** "One of those alive, each as likely": the dead are not named, those REPORTED that are alive are. */
    private static void sayingsOfTheDeadAreSharedOut() {
        WallMirror x = Due.mirror("Q111P9990P1110P1110P1110P1110P1110");
        int alive = 6;
        for (int person = 5; person >= 1; person--) {
            sayingOf(x, 0, 0, 1, alive);
            sayingOf(x, person, 0, 1, alive);
            x.hunt(person, person == 3);
            alive -= person == 3 ? 0 : 1;
        }
        sayingOf(x, 0, 0, 1, 2);
        sayingOf(x, 3, 0, 1, 2);
        sayingOf(x, 3, 5, 1, 4);
    }

    /** All that can be named together are 1, by any tenths. */
    private static void sayingsAddUpToOne() {
        WallMirror x = Due.mirror("Q111P9990P1110P9990P1110P1110P9990");
        x.hunt(4, false);
        for (int tenths = 0; tenths <= 10; tenths++) {
            int together = 0;
            for (int person = 0; person < 6; person++) {
                if (person != 4) {
                    together += x.saying(person, tenths, true) * (50 / x.saying(person, tenths, false));
                }
            }
            Due.due("all sayings of 50 by " + tenths, together, 50);
        }
    }

    // ---- believed

    private static void believedOf(WallMirror x, int person, int first, int second, int above, int below) {
        String call = "believed(" + person + ", " + first + ", " + second + ")";
        Due.fraction(call, x.believed(person, first, second, true), x.believed(person, first, second, false), above,
            below);
    }

    /** "x tenths" of 0 .. 10 each: of 0 and 0 nothing is known, of 10 all. */
    private static void believedByNoneAndAllTenths() {
        WallMirror x = Due.mirror("Q111P1110P2220P1110P0000");
        for (int person = 0; person < 4; person++) {
            believedOf(x, person, 0, 0, 1, 4);
            believedOf(x, person, 10, 10, 1, 1);
            for (int tenths = 0; tenths <= 10; tenths++) {
                believedOf(x, person, 10, tenths, 1, 1);
                believedOf(x, person, tenths, 10, 1, 1);
            }
        }
        // one tenth: 13 of 40 if it is so, 9 of 40 if not
        believedOf(x, 0, 1, 0, 13, 40);
        believedOf(x, 0, 0, 1, 13, 40);
        believedOf(x, 0, 1, 1, 169, 412);
        believedOf(x, 0, 9, 9, 1369, 1372);
        believedOf(x, 0, 9, 1, 481, 508);
        believedOf(x, 0, 1, 9, 481, 508);
    }

    /** Of one alive it is sure, by no tenths, too. */
    private static void believedOfOneAlive() {
        WallMirror x = Due.mirror("Q111P1110P2220P1110P0000");
        for (int person = 1; person < 4; person++) {
            x.hunt(person, false);
        }
        for (int tenths = 0; tenths <= 10; tenths++) {
            believedOf(x, 0, tenths, 0, 1, 1);
            believedOf(x, 0, 0, tenths, 1, 1);
        }
    }

    /** "By how many are alive alone". */
    private static void believedOfTwoAndOfSix() {
        WallMirror x = Due.mirror(SIX);
        believedOf(x, 5, 0, 0, 1, 6);
        believedOf(x, 5, 5, 5, 49, 54);
        x.hunt(1, true);
        believedOf(x, 1, 5, 5, 49, 54);
        for (int person = 2; person <= 5; person++) {
            x.hunt(person, false);
        }
        believedOf(x, 1, 0, 0, 1, 2);
        believedOf(x, 1, 5, 5, 9, 10);
        believedOf(x, 0, 5, 5, 9, 10);
        believedOf(x, 0, 2, 0, 3, 5);
    }

    /** Who is FAIREST in truth, and what was HEARD, is set aside. */
    private static void believedWhoeverIsFairest() {
        WallMirror x = Due.mirror("Q999P9990P0000");
        x.hear(0, true);
        believedOf(x, 0, 5, 6, 12, 13);
        believedOf(x, 1, 5, 6, 12, 13);
    }

    // ---- chance

    private static void chanceOf(WallMirror x, int tenths, int above, int below) {
        Due.fraction("chance(" + tenths + ")", x.chance(tenths, true), x.chance(tenths, false), above, below);
    }

    /** "Each REPORTED one is alive by x tenths (0 .. 10)": none of them by 0, all by 10, whether they are or not. */
    private static void chancesByNoneAndAllTenths() {
        for (boolean lies : new boolean[] {false, true}) {
            WallMirror x = Due.mirror("Q111P2220P3330P1110");
            x.hunt(1, lies);
            chanceOf(x, 0, 1, 1);
            chanceOf(x, 10, 0, 1);
            chanceOf(x, 1, 9, 10);
            chanceOf(x, 9, 1, 10);
            chanceOf(x, 5, 1, 2);
            x.hunt(2, lies);
            chanceOf(x, 0, 1, 1);
            chanceOf(x, 10, 0, 1);
            chanceOf(x, 4, 3, 5);
        }
    }

    /** Of THE QUEEN alone it is sure. */
    private static void chancesOfOne() {
        WallMirror x = Due.mirror("Q111P0000");
        for (int tenths = 0; tenths <= 10; tenths++) {
            chanceOf(x, tenths, 1, 1);
        }
    }

    /** "The others as they are": if nobody is REPORTED it is 0 of 1, or 1 of 1. */
    private static void chancesIfNobodyIsReported() {
        for (int tenths = 0; tenths <= 10; tenths++) {
            chanceOf(Due.mirror("Q111P1110P2220"), tenths, 0, 1);
            chanceOf(Due.mirror("Q111P1110P1110"), tenths, 0, 1);
            chanceOf(Due.mirror("Q111P1110P1100"), tenths, 1, 1);
        }
    }

    /** "FAIREST ALONE": one beside her is as bad as one above; one below is none. */
    private static void chancesOfThoseBesideHer() {
        WallMirror x = Due.mirror("Q111P1110P1110P1100P1110");
        x.hunt(1, true);
        x.hunt(2, true);
        chanceOf(x, 0, 0, 1);
        x.hunt(3, false);
        chanceOf(x, 0, 1, 1);
        chanceOf(x, 10, 0, 1);
        chanceOf(x, 3, 49, 100);
        x.plain(1, 0);
        chanceOf(x, 3, 7, 10);
        x.plain(0, 0);
        x.plain(0, 1);
        chanceOf(x, 3, 343, 1000);
    }

    /** The most that can be REPORTED: 32 sets, each by its own likelihood, in least terms. */
    private static void chancesOfFiveReported() {
        WallMirror x = Due.mirror(SIX);
        for (int person = 1; person <= 5; person++) {
            x.hunt(person, person < 3);
        }
        chanceOf(x, 0, 1, 1);
        chanceOf(x, 10, 0, 1);
        chanceOf(x, 1, 59049, 100000);
        chanceOf(x, 9, 1, 100000);
        chanceOf(x, 3, 16807, 100000);
        chanceOf(x, 2, 1024, 3125);
        chanceOf(x, 8, 1, 3125);
        WallMirror y = Due.mirror("Q100P2110P1110P1110P1110P1110P2110");
        for (int person = 1; person <= 5; person++) {
            y.hunt(person, person < 3);
        }
        for (int tenths = 0; tenths <= 10; tenths++) {
            int[] above = {1, 9, 4, 7, 3, 1, 2, 3, 1, 1, 0};
            int[] below = {1, 10, 5, 10, 5, 2, 5, 10, 5, 10, 1};
            chanceOf(y, tenths, above[tenths], below[tenths]);
        }
    }

    /** Nothing that was HEARD is looked at. */
    private static void chancesSetHeardAside() {
        WallMirror x = Due.mirror("Q111P1110P2220");
        x.hunt(1, true);
        x.hear(0, true);
        chanceOf(x, 3, 7, 10);
        x.hear(0, false);
        chanceOf(x, 3, 7, 10);
    }

    // ---- seed, hunted

    /** "0 at first", any long: "what it was". */
    private static void seedsOfAllKinds() {
        WallMirror x = new WallMirror();
        long[] seeds = {0, 1, -1, Long.MIN_VALUE, Long.MAX_VALUE, Integer.MIN_VALUE, Integer.MAX_VALUE, 1L << 32,
            -(1L << 32), 6364136223846793005L, 0};
        long was = 0;
        for (long seed : seeds) {
            Due.due("seed(" + seed + ")", x.seed(seed), was);
            was = seed;
        }
    }

    /** THE SEED and those alive behind m hunts, by numbers without bounds. */
    private static void huntedBy(String court, long seed, int m) {
        WallMirror x = Due.mirror(court);
        int people = x.about(0);
        int left = x.about(1);
        BigInteger at = BigInteger.valueOf(seed);
        for (int i = 0; i < m; i++) {
            at = at.multiply(new BigInteger("6364136223846793005")).add(new BigInteger("1442695040888963407"))
                .mod(BigInteger.ONE.shiftLeft(64));
            int one = at.shiftRight(33).mod(BigInteger.valueOf(people)).intValue();
            left &= one == 0 ? left : ~(1 << one);
        }
        x.seed(seed);
        Due.due("hunted(" + m + ") of " + people + " by " + seed, x.hunted(m), Integer.bitCount(left));
        Due.due("THE SEED then", x.seed(0), at.longValue());
    }

    /** "m times (1 .. 30)": each of them, of one to six people. */
    private static void oneHuntAndThirty() {
        for (int people = 1; people <= 6; people++) {
            for (int m = 1; m <= 30; m++) {
                huntedBy(SIX.substring(0, 4 + 5 * people), 1000 * m + people, m);
                huntedBy(SIX.substring(0, 4 + 5 * people), 0, m);
            }
        }
    }

    /** "64 bits, wrapping": seeds at both ends, and those by which x comes to its ends. */
    private static void seedThatWraps() {
        long[] seeds = {-1, 1, Long.MIN_VALUE, Long.MAX_VALUE, Long.MIN_VALUE + 1, 1L << 32, 1L << 33, 1L << 62,
            Integer.MIN_VALUE, Integer.MAX_VALUE, 0xffffffffL, 0x123456789abcdefL, -0x123456789abcdefL};
        for (long seed : seeds) {
            for (int people = 1; people <= 6; people++) {
                huntedBy(SIX.substring(0, 4 + 5 * people), seed, 1);
                huntedBy(SIX.substring(0, 4 + 5 * people), seed, 2);
                huntedBy(SIX.substring(0, 4 + 5 * people), seed, 30);
            }
        }
    }

    /** The seed behind which THE SEED is such a number: x was (number less 1442695040888963407) by the inverse. */
    private static long seedAhead(long number) {
        BigInteger bound = BigInteger.ONE.shiftLeft(64);
        BigInteger inverse = new BigInteger("6364136223846793005").modInverse(bound);
        return BigInteger.valueOf(number).subtract(new BigInteger("1442695040888963407")).multiply(inverse).mod(bound)
            .longValue();
    }

    /** "Its upper 31 bits": from none of them to all, with and without a sign, whatever is below them. */
    private static void upperBits() {
        long lower = (1L << 33) - 1;
        long[] upper = {0, 1, 2, 5, 6, 7, (1L << 30) - 1, 1L << 30, (1L << 30) + 1, (1L << 31) - 2, (1L << 31) - 1};
        for (long bits : upper) {
            for (long number : new long[] {bits << 33, bits << 33 | 1, bits << 33 | lower}) {
                WallMirror x = Due.mirror(SIX);
                x.seed(seedAhead(number));
                Due.due("hunted(1) by upper bits " + bits, x.hunted(1), bits % 6 == 0 ? 6 : 5);
                Due.due("THE SEED then", x.seed(0), number);
                WallMirror y = Due.mirror("Q100P1110P1110");
                y.seed(seedAhead(number));
                Due.due("hunted(1) of two by upper bits " + bits, y.hunted(1), bits % 2 == 0 ? 2 : 1);
            }
        }
    }

    /** "If it is alive and not THE QUEEN, it dies": she is always left. */
    private static void huntsSpareTheQueen() {
        WallMirror x = Due.mirror("Q100P1110");
        for (int m = 1; m <= 30; m++) {
            Due.due("hunted(" + m + ") of her alone", x.hunted(m), 1);
        }
        WallMirror y = Due.mirror("Q100P1110P1110");
        Due.due("hunted(30) of two", y.hunted(30), 1);
        Due.due("alive as before", y.about(1), 3);
    }

    /** The dead keep their number, are not counted and die but once; those REPORTED that are alive may die. */
    private static void huntsOfTheDead() {
        for (int person = 1; person <= 5; person++) {
            WallMirror x = Due.mirror(SIX);
            x.seed(seedAhead((long) person << 33));
            x.hunt(person, true);
            Due.due("hunted(1) of one REPORTED", x.hunted(1), 5);
            WallMirror y = Due.mirror(SIX);
            y.seed(seedAhead((long) person << 33));
            y.hunt(person, false);
            Due.due("hunted(1) of a dead one", y.hunted(1), 5);
            WallMirror z = Due.mirror(SIX);
            z.seed(seedAhead((long) person << 33));
            z.hunt(6 - person == person ? 1 : 6 - person, false);
            Due.due("hunted(1) of another one", z.hunted(1), 4);
        }
        WallMirror x = Due.mirror(SIX);
        for (int person = 1; person <= 5; person++) {
            x.hunt(person, false);
        }
        Due.due("hunted(30), all dead but her", x.hunted(30), 1);
    }

    /** One hunt of 30 moves THE SEED as far as 30 of one, each of which begins with all that are alive. */
    private static void huntsGoOn() {
        WallMirror x = Due.mirror(SIX);
        WallMirror y = Due.mirror(SIX);
        x.seed(99);
        y.seed(99);
        x.hunted(30);
        for (int i = 0; i < 30; i++) {
            int left = y.hunted(1);
            Due.due("hunted(1) takes one or none", left == 5 || left == 6 ? 1 : 0, 1);
        }
        Due.due("THE SEED behind 30", y.seed(0), x.seed(0));
    }

    /** "Nothing changes but THE SEED". */
    private static void huntsChangeNothingElse() {
        WallMirror x = Due.mirror(SIX);
        x.hunt(2, true);
        x.keep(1);
        Due.due("hunted(30)", x.hunted(30), 1);
        Due.due("alive", x.about(1), 63);
        Due.due("REPORTED", x.about(2), 4);
        Due.due("ACTS", x.about(7), 1);
        Due.due("worlds(0)", x.worlds(0), 2);
        Due.due("undo()", x.undo(), 0);
        Due.due("again(1)", x.again(1), 6);
    }
}
