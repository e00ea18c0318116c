import java.util.Random;

/**
 * Long runs of calls, drawn by fixed seeds, on the program and on the plain telling of the document: all alike. Half
 * of the runs keep mostly to one theme, so that rows come to be full, texts to be long, and much is done at an edge.
 */
public final class RandomRunsTest {
    private static final int RUNS = 600;
    private static final int THEMES = 6;
    private static final int CALLS = 512;

    private final Random random;
    private final WallMirror x = new WallMirror();
    private final PlainMirror y = new PlainMirror();
    private final int run;
    private int calls = 0;

    private RandomRunsTest(int run) {
        this.run = run;
        random = new Random(run);
    }

    public static void main(String[] args) {
        for (int run = 0; run < RUNS; run++) {
            new RandomRunsTest(run).go();
        }
        Due.end();
    }

    private void go() {
        boolean hasTheme = run % 2 == 1;
        while (calls + 45 <= CALLS) {
            if (calls == 0 || random.nextInt(hasTheme ? 200 : 60) == 0) {
                newCourt();
            } else if (hasTheme && random.nextInt(5) > 0) {
                next(run / 2 % THEMES);
            } else {
                next(random.nextInt(THEMES));
            }
        }
    }

    private void alike(String call, long got, long want) {
        calls++;
        Due.due("run " + run + ", call " + calls + ": " + call, got, want);
    }

    private void newCourt() {
        alike("wipe()", x.wipe(), y.wipe());
        String text = courtText();
        for (int i = 0; i < text.length(); i++) {
            alike("write(" + (int) text.charAt(i) + ")", x.write(text.charAt(i)), y.write(text.charAt(i)));
        }
        alike("fault() of " + text, x.fault(), y.fault());
        alike("court() of " + text, x.court(), y.court());
    }

    /** Mostly a court, now and then one with a wrong byte or cut short; small marks, so that many are alike. */
    private String courtText() {
        int most = 1 + random.nextInt(9);
        StringBuilder text = new StringBuilder("Q");
        for (int i = 0; i < 3; i++) {
            text.append(random.nextInt(most + 1));
        }
        int people = random.nextInt(8) == 0 ? random.nextInt(8) : 2 + random.nextInt(5);
        int base = random.nextInt(10 - most);
        for (int i = 0; i < people; i++) {
            text.append('P');
            for (int mark = 0; mark < 3; mark++) {
                text.append(base + random.nextInt(most + 1));
            }
            text.append(random.nextInt(3));
        }
        if (random.nextInt(8) == 0) {
            String letters = "QP0129/:\0\u00ff";
            text.setCharAt(random.nextInt(text.length()), letters.charAt(random.nextInt(letters.length())));
        }
        if (random.nextInt(12) == 0) {
            text.setLength(random.nextInt(text.length() + 1));
        }
        return text.toString();
    }

    /** One of 0 .. most, seldom one beside them, or far from them. */
    private int upTo(int most) {
        if (random.nextInt(150) == 0) {
            return random.nextInt();
        }
        if (random.nextInt(300) == 0) {
            return random.nextBoolean() ? Integer.MIN_VALUE : Integer.MAX_VALUE;
        }
        return random.nextInt(25) == 0 ? (random.nextBoolean() ? -1 : most + 1) : random.nextInt(most + 1);
    }

    /** A person, more often one that there is. */
    private int one() {
        return upTo(Math.max(0, y.about(0) - 1));
    }

    private void next(int theme) {
        switch (theme) {
            case 0 -> act();
            case 1 -> maybe();
            case 2 -> measured();
            case 3 -> chances();
            case 4 -> text();
            default -> rest();
        }
    }

    /** A byte or a few more, most of them such as could come next, and what the text is then. */
    private void text() {
        for (int times = random.nextInt(6); times > 0; times--) {
            int place = y.about(9);
            int likely = place == 0 ? 'Q' : place >= 4 && place % 5 == 4 ? 'P' : '0' + random.nextInt(3);
            int letter = random.nextInt(40) == 0 ? upTo(255) : likely;
            alike("write(" + letter + ")", x.write(letter), y.write(letter));
        }
        alike("fault()", x.fault(), y.fault());
        if (random.nextInt(4) == 0) {
            alike("court()", x.court(), y.court());
            alike("about(1)", x.about(1), y.about(1));
        }
        if (random.nextInt(y.about(9) == 40 ? 4 : 20) == 0) {
            alike("wipe()", x.wipe(), y.wipe());
        }
    }

    private void act() {
        int p = one();
        int m = upTo(2);
        boolean lies = random.nextBoolean();
        switch (random.nextInt(8)) {
            case 0, 1 -> alike("morning()", x.morning(), y.morning());
            case 2 -> alike("year()", x.year(), y.year());
            case 3, 4 -> alike("plain(" + p + ", " + m + ")", x.plain(p, m), y.plain(p, m));
            case 5, 6 -> alike("hunt(" + p + ", " + lies + ")", x.hunt(p, lies), y.hunt(p, lies));
            default -> {
                for (int times = 1 + random.nextInt(4); times > 0; times--) {
                    alike("undo()", x.undo(), y.undo());
                }
            }
        }
        seen();
    }

    private void seen() {
        int p = one();
        int what = upTo(9);
        alike("about(" + what + ")", x.about(what), y.about(what));
        alike("person(" + p + ", " + what + ")", x.person(p, what), y.person(p, what));
        alike("about(6)", x.about(6), y.about(6));
    }

    private void maybe() {
        int p = one();
        int k = upTo(6);
        boolean is = random.nextBoolean();
        switch (random.nextInt(9)) {
            case 0, 1 -> judged();
            case 2, 3 -> alike("hear(" + p + ", " + is + ")", x.hear(p, is), y.hear(p, is));
            case 4 -> alike("unhear()", x.unhear(), y.unhear());
            case 5, 6 -> alike("answer(" + k + ", " + is + ")", x.answer(k, is), y.answer(k, is));
            default -> {
                int what = upTo(1);
                alike("worlds(" + what + ")", x.worlds(what), y.worlds(what));
                alike("toAsk()", x.toAsk(), y.toAsk());
            }
        }
    }

    /** Most figures are drawn from those that the mirror itself would tell first, so that long rows hold. */
    private void judged() {
        int n = upTo(8);
        int row = random.nextInt(10) == 0 ? -1 : 0;
        for (int i = 0; i < Math.min(n, 9) && row >= 0; i++) {
            int told = random.nextInt(6);
            for (int person = 0; person < 6; person++) {
                if (random.nextInt(12) > 0 && n <= 8 && y.judged(i + 1, row * 10 + person) == -9) {
                    told = person;
                }
            }
            row = row * 10 + told;
        }
        int asked = random.nextInt(20) == 0 ? row * 10 + 9 : row;
        alike("judged(" + n + ", " + asked + ")", x.judged(n, asked), y.judged(n, asked));
    }

    private void measured() {
        int p = one();
        int o = one();
        int w = upTo(999);
        boolean is = random.nextBoolean();
        switch (random.nextInt(7)) {
            case 0 -> alike("chosen(" + p + ")", x.chosen(p), y.chosen(p));
            case 1 -> alike("chosenWorth(" + p + ")", x.chosenWorth(p), y.chosenWorth(p));
            case 2 -> alike("measures(" + p + ")", x.measures(p), y.measures(p));
            case 3 -> alike("nearest(" + p + ")", x.nearest(p), y.nearest(p));
            case 4 -> alike("reign(" + is + ")", x.reign(is), y.reign(is));
            case 5 -> alike("differs(" + w + ")", x.differs(w), y.differs(w));
            default -> alike("rate(" + p + ", " + o + ", " + is + ")", x.rate(p, o, is), y.rate(p, o, is));
        }
    }

    private void chances() {
        int p = one();
        int a = upTo(10);
        int b = upTo(10);
        int m = random.nextBoolean() ? upTo(30) : 1 + random.nextInt(4);
        long v = random.nextLong();
        boolean is = random.nextBoolean();
        switch (random.nextInt(5)) {
            case 0 -> alike("saying(" + p + ", " + a + ", " + is + ")", x.saying(p, a, is), y.saying(p, a, is));
            case 1 -> alike("believed(" + p + ", " + a + ", " + b + ", " + is + ")", x.believed(p, a, b, is),
                y.believed(p, a, b, is));
            case 2 -> alike("chance(" + a + ", " + is + ")", x.chance(a, is), y.chance(a, is));
            case 3 -> alike("seed(" + v + ")", x.seed(v), y.seed(v));
            default -> alike("hunted(" + m + ")", x.hunted(m), y.hunted(m));
        }
    }

    private void rest() {
        int slot = upTo(1);
        int letter = upTo(255);
        switch (random.nextInt(12)) {
            case 0, 1, 2 -> alike("keep(" + slot + ")", x.keep(slot), y.keep(slot));
            case 3, 4 -> alike("again(" + slot + ")", x.again(slot), y.again(slot));
            case 5 -> alike("court()", x.court(), y.court());
            case 6 -> alike("write(" + letter + ")", x.write(letter), y.write(letter));
            case 7 -> alike("fault()", x.fault(), y.fault());
            default -> seen();
        }
    }
}
