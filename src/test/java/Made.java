/** Mirrors that hold much, each made by the same calls every time (at most 110 of them). */
final class Made {
    private Made() {
    }

    /**
     * Six people, 4 of them dead, 3 and 5 alive though REPORTED, 2 with a MARK of 0; more ACTS than the row takes; all
     * that can be HEARD (three sets fit); both SLOTS kept, each otherwise; THE SEED 17.
     */
    static WallMirror rich() {
        WallMirror x = Due.mirror("Q987P5551P6402P2700P3391P9992P4440");
        x.morning();
        x.hunt(4, false);
        x.keep(0);
        x.year();
        x.plain(0, 1);
        x.morning();
        x.plain(1, 0);
        x.hunt(5, true);
        x.keep(1);
        for (int i = 0; i < 3; i++) {
            x.morning();
            x.plain(5, i);
        }
        x.hunt(3, true);
        x.plain(2, 1);
        x.plain(3, 0);
        x.plain(3, 1);
        x.morning();
        for (int i = 0; i < 3; i++) {
            x.hear(4, false);
            x.hear(1, false);
        }
        x.seed(17);
        return x;
    }

    /** Two people where there were six, so that more than two are told in what lies behind. */
    static WallMirror two() {
        WallMirror x = rich();
        Due.write(x, "Q120P5301P4042");
        x.court();
        x.morning();
        x.plain(1, 2);
        x.keep(1);
        x.hunt(1, false);
        return x;
    }

    /** Nobody where there were six; two years, a SLOT kept, six HEARD, a TEXT cut short. */
    static WallMirror nobody() {
        WallMirror x = rich();
        Due.write(x, "Q045");
        x.court();
        x.year();
        x.keep(0);
        x.year();
        x.write('P');
        return x;
    }

    /** A TEXT of 40 bytes, which is too long by a person and one byte more. */
    static WallMirror fullText() {
        WallMirror x = Due.mirror("Q321P5551P6402P2700P3390P9991P4440");
        Due.write(x, "Q321P5551P6402P2700P3390P9991P4440P1112Q");
        x.year();
        x.keep(1);
        return x;
    }
}
