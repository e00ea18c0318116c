/** Promises 26 to 30: sayings of courtiers, chances, the seed, hunts by it. */
public final class ChancesTest {
    public static void main(String[] args) {
        saying();
        believed();
        chance();
        seed();
        hunted();
        huntedOfSome();
        Due.end();
    }

    private static void sayingOf(WallMirror x, int person, int tenths, int above, int below) {
        String call = "saying(" + person + ", " + tenths + ")";
        Due.fraction(call, x.saying(person, tenths, true), x.saying(person, tenths, false), above, below);
    }

    private static void saying() {
        WallMirror x = Due.mirror("Q111P5550P5550P1110");
        sayingOf(x, 0, 5, 2, 3);
        sayingOf(x, 1, 5, 1, 6);
        sayingOf(x, 2, 5, 1, 6);
        sayingOf(x, 0, 10, 1, 1);
        sayingOf(x, 1, 10, 0, 1);
        sayingOf(x, 0, 0, 1, 3);
        sayingOf(x, 2, 0, 1, 3);
        sayingOf(x, 0, 1, 2, 5);
        sayingOf(x, 1, 1, 3, 10);
        x.hunt(2, false);
        sayingOf(x, 0, 5, 3, 4);
        sayingOf(x, 1, 5, 1, 4);
        x.undo();
        x.hunt(2, true);
        sayingOf(x, 0, 5, 2, 3);
        x.plain(0, 0);
        sayingOf(x, 1, 5, 2, 3);
        sayingOf(x, 0, 5, 1, 6);
        sayingOf(Due.mirror("Q100P0000"), 0, 7, 1, 1);
    }

    private static void believedOf(WallMirror x, int person, int[] tenths, int above, int below) {
        String call = "believed(" + person + ", " + tenths[0] + ", " + tenths[1] + ")";
        Due.fraction(call, x.believed(person, tenths[0], tenths[1], true),
            x.believed(person, tenths[0], tenths[1], false), above, below);
    }

    private static void believed() {
        WallMirror x = Due.mirror("Q111P5550P5550P1110");
        for (int person = 0; person < 3; person++) {
            believedOf(x, person, new int[] {5, 6}, 11, 12);
            believedOf(x, person, new int[] {6, 5}, 11, 12);
            believedOf(x, person, new int[] {0, 0}, 1, 3);
            believedOf(x, person, new int[] {0, 10}, 1, 1);
            believedOf(x, person, new int[] {10, 0}, 1, 1);
            believedOf(x, person, new int[] {10, 10}, 1, 1);
            believedOf(x, person, new int[] {0, 5}, 2, 3);
            believedOf(x, person, new int[] {1, 0}, 2, 5);
        }
        x.hunt(2, false);
        believedOf(x, 1, new int[] {5, 6}, 12, 13);
        believedOf(Due.mirror("Q111P5550"), 0, new int[] {3, 4}, 1, 1);
        believedOf(Due.mirror("Q111P0000P0000P0000P0000P0000P0000"), 5, new int[] {9, 9}, 605, 606);
    }

    private static void chanceOf(WallMirror x, int tenths, int above, int below) {
        Due.fraction("chance(" + tenths + ")", x.chance(tenths, true), x.chance(tenths, false), above, below);
    }

    private static void chance() {
        WallMirror x = Due.mirror("Q111P5550P6660P5550P1110");
        chanceOf(x, 3, 0, 1);
        x.hunt(1, false);
        chanceOf(x, 3, 0, 1);
        x.hunt(2, true);
        chanceOf(x, 3, 49, 100);
        chanceOf(x, 5, 1, 4);
        chanceOf(x, 0, 1, 1);
        chanceOf(x, 10, 0, 1);
        x.hunt(3, false);
        chanceOf(x, 3, 49, 100);
        chanceOf(x, 9, 1, 100);
        x.hear(1, true);
        chanceOf(x, 3, 49, 100);
        chanceOf(Due.mirror("Q111P5550P1110"), 5, 1, 1);
        chanceOf(Due.mirror("Q111P0000"), 10, 1, 1);
        WallMirror five = Due.mirror("Q100P1000P1000P1000P1000P1000P1000");
        for (int person = 1; person < 6; person++) {
            five.hunt(person, person % 2 == 0);
        }
        chanceOf(five, 7, 243, 100000);
        chanceOf(five, 5, 1, 32);
    }

    private static void seed() {
        WallMirror x = new WallMirror();
        Due.due("seed(7)", x.seed(7), 0);
        Due.due("seed(least)", x.seed(Long.MIN_VALUE), 7);
        Due.due("seed(most)", x.seed(Long.MAX_VALUE), Long.MIN_VALUE);
        Due.due("seed(-1)", x.seed(-1), Long.MAX_VALUE);
        Due.due("seed(0)", x.seed(0), -1);
        Due.due("it is no act", x.about(7), 0);
    }

    private static void huntedBy(long seed, int m, String court, int alive, long seedThen) {
        WallMirror x = Due.mirror(court);
        x.seed(seed);
        Due.due("hunted(" + m + ") by " + seed, x.hunted(m), alive);
        Due.due("the seed then", x.seed(seed), seedThen);
        Due.due("all are alive as they were", x.about(1), (1 << x.about(0)) - 1);
        Due.due("nobody is reported", x.about(2), 0);
        Due.due("it is no act", x.about(7), 0);
    }

    private static void hunted() {
        String six = "Q100P1110P1110P1110P1110P1110P1110";
        huntedBy(0, 1, six, 5, 1442695040888963407L);
        huntedBy(0, 2, six, 5, 1876011003808476466L);
        huntedBy(0, 3, six, 4, -7280499659394350823L);
        huntedBy(0, 5, six, 3, 7076646890315895283L);
        huntedBy(0, 30, six, 1, -7345197285147560642L);
        huntedBy(-1, 3, six, 3, -8074375053307979740L);
        huntedBy(Long.MIN_VALUE, 2, six, 4, -7347361033046299342L);
        huntedBy(3, 4, "Q100P1110P1110P1110P1110", 2, 6385483684110717927L);
        huntedBy(12345, 4, "Q100P1110P1110P1110P1110P1110", 1, -3030109964521694339L);
        huntedBy(0, 1, "Q100P1110", 1, 1442695040888963407L);
        huntedBy(0, 30, "Q100P1110P1110P1110", 1, -7345197285147560642L);
    }

    private static void huntedOfSome() {
        WallMirror x = Due.mirror("Q100P1110P1110P1110P1110P1110P1110");
        x.hunt(1, true);
        x.hunt(5, false);
        Due.due("hunted(3) takes 1, though reported, and 5, that is dead", x.hunted(3), 4);
        Due.due("hunted(2) goes on with the seed and takes 4", x.hunted(2), 4);
        Due.due("seed(0)", x.seed(0), 7076646890315895283L);
    }
}
