import java.util.function.LongSupplier;

/** What the tests share: comparing answers, and making mirrors from texts. */
final class Due {
    private static int wrong = 0;
    private static int asked = 0;

    private Due() {
    }

    static void due(String call, long got, long want) {
        asked++;
        if (got != want) {
            wrong++;
            System.out.println(call + " answered " + got + ", due is " + want);
        }
    }

    static void due(String what, String got, String want) {
        asked++;
        if (!got.equals(want)) {
            wrong++;
            System.out.println(what + " was " + got + ", due is " + want);
        }
    }

    /** A call that is to be refused, and to change nothing that can be seen. */
    static void refused(WallMirror x, String call, LongSupplier answer, long want) {
        String before = seen(x);
        due(call, answer.getAsLong(), want);
        due("what is seen after " + call, seen(x), before);
    }

    /** All that can be seen of a mirror without changing it. */
    static String seen(WallMirror x) {
        StringBuilder all = new StringBuilder();
        for (int what = 0; what < 10; what++) {
            all.append(x.about(what)).append(' ');
        }
        for (int person = 0; person < x.about(0); person++) {
            for (int what = 0; what < 6; what++) {
                all.append(x.person(person, what)).append(' ');
            }
        }
        all.append(x.fault()).append(' ').append(x.worlds(0)).append(' ').append(x.worlds(1));
        long seed = x.seed(0);
        x.seed(seed);
        return all.append(' ').append(seed).toString();
    }

    static void write(WallMirror x, String text) {
        x.wipe();
        for (int i = 0; i < text.length(); i++) {
            x.write(text.charAt(i));
        }
    }

    static WallMirror mirror(String text) {
        WallMirror x = new WallMirror();
        write(x, text);
        x.court();
        return x;
    }

    static void marks(WallMirror x, int person, int a, int b, int c) {
        due("person(" + person + ", 0)", x.person(person, 0), a);
        due("person(" + person + ", 1)", x.person(person, 1), b);
        due("person(" + person + ", 2)", x.person(person, 2), c);
    }

    static void fraction(String call, long upper, long lower, long wantUpper, long wantLower) {
        due(call + " above", upper, wantUpper);
        due(call + " below", lower, wantLower);
    }

    static void end() {
        System.out.println(asked + " answers, " + wrong + " not as due");
        if (wrong != 0) {
            System.exit(1);
        }
    }
}
