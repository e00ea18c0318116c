import java.util.function.LongSupplier;
import java.util.function.Supplier;
import java.util.function.ToLongFunction;

/** What the tests share: comparing answers, and making mirrors from texts. An object answers for 512 calls only. */
final class Due {
    private static int wrong = 0;
    private static int asked = 0;

    private Due() {
    }

    static void due(String call, long got, long want) {
        asked++;
        if (got != want) {
            wrong++;
            System.out.println(call + " answered " + got + ", due is " + want);
        }
    }

    static void due(String what, String got, String want) {
        asked++;
        if (!got.equals(want)) {
            wrong++;
            System.out.println(what + " was " + got + ", due is " + want);
        }
    }

    /** A call that is to be refused, and to change nothing that can be seen (up to 105 calls). */
    static void refused(WallMirror x, String call, LongSupplier answer, long want) {
        String before = seen(x);
        due(call, answer.getAsLong(), want);
        due("what is seen after " + call, seen(x), before);
    }

    /** A call that is to be refused, and to change nothing at all: ACTS and SLOTS are as on a mirror made alike. */
    static void refused(Supplier<WallMirror> made, String call, ToLongFunction<WallMirror> answer, long want) {
        WallMirror x = made.get();
        due(call, answer.applyAsLong(x), want);
        due(call + " once more", answer.applyAsLong(x), want);
        due("all behind " + call, all(x), all(made.get()));
    }

    /** All that can be seen of a mirror without changing it (at most 52 calls). */
    static String seen(WallMirror x) {
        StringBuilder all = new StringBuilder();
        for (int what = 0; what < 10; what++) {
            all.append(x.about(what)).append(' ');
        }
        int people = x.about(0);
        for (int person = 0; person < people; person++) {
            for (int what = 0; what < 6; what++) {
                all.append(x.person(person, what)).append(' ');
            }
        }
        all.append(x.fault()).append(' ').append(x.worlds(0)).append(' ').append(x.worlds(1));
        long seed = x.seed(0);
        x.seed(seed);
        return all.append(' ').append(seed).toString();
    }

    /** All that can be found out of a mirror, which is used up by it (at most 336 calls). */
    static String all(WallMirror x) {
        StringBuilder all = new StringBuilder(seen(x));
        all.append(" asks ").append(x.toAsk());
        for (int left = x.undo(), acts = 0; left >= 0 && acts < 14; left = x.undo(), acts++) {
            all.append(" undone ").append(left);
            values(x, all);
        }
        allMarks(x, all);
        for (int slot = 0; slot < 2; slot++) {
            all.append(" slot ").append(slot).append(' ').append(x.again(slot));
            allMarks(x, all);
        }
        all.append(" heard ").append(x.unhear()).append(" court ").append(x.court());
        allMarks(x, all);
        return all.toString();
    }

    private static void counts(WallMirror x, StringBuilder all) {
        all.append(' ').append(x.about(1)).append(' ').append(x.about(2)).append(' ').append(x.about(4)).append(' ')
            .append(x.about(5)).append(' ').append(x.about(6)).append(':');
    }

    private static void values(WallMirror x, StringBuilder all) {
        counts(x, all);
        int people = x.about(0);
        for (int person = 0; person < people; person++) {
            all.append(' ').append(x.person(person, 6));
        }
    }

    private static void allMarks(WallMirror x, StringBuilder all) {
        counts(x, all);
        int people = x.about(0);
        for (int person = 0; person < people; person++) {
            all.append(' ').append(x.person(person, 0)).append(x.person(person, 1)).append(x.person(person, 2));
        }
    }

    static void write(WallMirror x, String text) {
        x.wipe();
        for (int i = 0; i < text.length(); i++) {
            x.write(text.charAt(i));
        }
    }

    static WallMirror mirror(String text) {
        WallMirror x = new WallMirror();
        write(x, text);
        x.court();
        return x;
    }

    static void marks(WallMirror x, int person, int a, int b, int c) {
        due("person(" + person + ", 0)", x.person(person, 0), a);
        due("person(" + person + ", 1)", x.person(person, 1), b);
        due("person(" + person + ", 2)", x.person(person, 2), c);
    }

    static void fraction(String call, long upper, long lower, long wantUpper, long wantLower) {
        due(call + " above", upper, wantUpper);
        due(call + " below", lower, wantLower);
    }

    static void end() {
        System.out.println(asked + " answers, " + wrong + " not as due");
        if (wrong != 0) {
            System.exit(1);
        }
    }
}
