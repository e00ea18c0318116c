import java.util.function.Function;
import java.util.function.ToLongFunction;

/**
 * What calls leave alone: questions change nothing (the document's part 2, "In what follows nothing is changed"), and
 * calls that change something change only what they name. All that the mirror holds is looked at behind each call.
 */
public final class QuietTest {
    public static void main(String[] args) {
        questions();
        questionsOfPeople();
        questionsOfNobody();
        hunts();
        text();
        heard();
        slots();
        theSeed();
        apart();
        Due.end();
    }

    private static void quiet(String call, ToLongFunction<WallMirror> asked) {
        WallMirror x = Made.rich();
        long first = asked.applyAsLong(x);
        Due.due(call + " once more", asked.applyAsLong(x), first);
        Due.due(call + " of another", asked.applyAsLong(Made.rich()), first);
        Due.due("all behind " + call, Due.all(x), Due.all(Made.rich()));
    }

    private static void questions() {
        quiet("fault()", WallMirror::fault);
        quiet("toAsk()", WallMirror::toAsk);
        quiet("judged(1, 2)", x -> x.judged(1, 2));
        quiet("judged(8, 33333333)", x -> x.judged(8, 33333333));
        quiet("judged(8, 0)", x -> x.judged(8, 0));
        quiet("differs(1)", x -> x.differs(1));
        quiet("differs(999)", x -> x.differs(999));
        for (int i = 0; i < 11; i++) {
            int k = i;
            boolean even = i % 2 == 0;
            quiet("about(" + k + ")", x -> x.about(k));
            quiet("worlds(" + k + ")", x -> x.worlds(k));
            quiet("answer(" + k + ", " + even + ")", x -> x.answer(k, even));
            quiet("answer(" + k + ", " + !even + ")", x -> x.answer(k, !even));
            quiet("reign(" + even + ")", x -> x.reign(even));
            quiet("chance(" + k + ", true)", x -> x.chance(k, true));
            quiet("chance(" + k + ", false)", x -> x.chance(k, false));
        }
    }

    private static void questionsOfPeople() {
        for (int i = 0; i < 7; i++) {
            int p = i;
            for (int what = 0; what < 8; what++) {
                int w = what;
                quiet("person(" + p + ", " + w + ")", x -> x.person(p, w));
            }
            quiet("chosen(" + p + ")", x -> x.chosen(p));
            quiet("chosenWorth(" + p + ")", x -> x.chosenWorth(p));
            quiet("measures(" + p + ")", x -> x.measures(p));
            quiet("nearest(" + p + ")", x -> x.nearest(p));
            for (int other = 0; other < 6; other++) {
                int o = other;
                quiet("rate(" + p + ", " + o + ")", x -> x.rate(p, o, true));
                quiet("saying(" + p + ", " + o + ")", x -> x.saying(p, o, true));
                quiet("believed(" + p + ", " + o + ", 7)", x -> x.believed(p, o, 7, false));
            }
        }
    }

    private static void questionsOfNobody() {
        WallMirror x = Made.nobody();
        x.fault();
        x.judged(8, 12345678);
        x.worlds(0);
        x.worlds(1);
        x.toAsk();
        x.answer(0, true);
        x.answer(6, false);
        x.reign(true);
        x.differs(321);
        x.chance(5, true);
        x.hunted(30);
        Due.due("all behind questions of nobody", Due.all(x), Due.all(Made.nobody()));
    }

    /** Nothing changes but THE SEED: what was hunted is alive, and no ACT. */
    private static void hunts() {
        for (int m = 1; m <= 30; m++) {
            WallMirror x = Made.rich();
            x.hunted(m);
            long moved = x.seed(17);
            Due.due("THE SEED has moved by hunted(" + m + ")", moved != 17 ? 1 : 0, 1);
            Due.due("all behind hunted(" + m + ")", Due.all(x), Due.all(Made.rich()));
        }
    }

    /** Nothing but the words so numbered may be otherwise in what is seen. */
    private static void only(String call, Function<WallMirror, WallMirror> made, int... words) {
        String[] before = Due.seen(Made.rich()).split(" ");
        String[] behind = Due.seen(made.apply(Made.rich())).split(" ");
        for (int i = 0; i < before.length; i++) {
            boolean named = false;
            for (int word : words) {
                named |= word == i;
            }
            Due.due("word " + i + " of what is seen behind " + call, named ? before[i] : behind[i], before[i]);
        }
    }

    /** THE TEXT is not THE COURT: of what is seen only its length (word 9) and its FAULT (word 46) change. */
    private static void text() {
        only("write(1)", x -> {
            x.write(1);
            return x;
        }, 9, 46);
        only("wipe()", x -> {
            x.wipe();
            return x;
        }, 9, 46);
        WallMirror x = Made.rich();
        x.wipe();
        Due.write(x, "Q987P5551P6402P2700P3391P9992P4440");
        Due.due("all behind the same text written anew", Due.all(x), Due.all(Made.rich()));
    }

    /** Of what is seen only how much was HEARD (word 8) and WORLDS (words 47, 48) change. */
    private static void heard() {
        only("unhear()", x -> {
            x.unhear();
            return x;
        }, 8, 47, 48);
        WallMirror x = Made.rich();
        x.unhear();
        for (int i = 0; i < 3; i++) {
            x.hear(1, false);
            x.hear(4, false);
        }
        Due.due("all behind the same heard anew", Due.all(x), Due.all(Made.rich()));
    }

    /** Keeping changes nothing that is seen, and no ACT; going on empties the ACTS and no SLOT. */
    private static void slots() {
        WallMirror x = Made.rich();
        String before = Due.seen(x);
        x.keep(0);
        x.keep(1);
        Due.due("what is seen behind keep", Due.seen(x), before);
        Due.due("undo() behind keep", x.undo(), 13);
        Due.due("again(0)", x.again(0), 5);
        Due.due("MORNINGS", x.about(4), 6);
        Due.due("ACTS", x.about(7), 0);
        Due.due("HEARD", x.about(8), 6);
        Due.due("bytes of THE TEXT", x.about(9), 34);
        Due.due("AGEING", x.person(4, 3), 2);
        Due.due("THE SEED", x.seed(0), 17);
    }

    private static void theSeed() {
        WallMirror x = Made.rich();
        x.seed(-5);
        x.seed(17);
        Due.due("all behind seed(-5)", Due.all(x), Due.all(Made.rich()));
    }

    /** Two objects share nothing. */
    private static void apart() {
        WallMirror x = Made.rich();
        WallMirror y = Made.two();
        y.morning();
        y.year();
        y.unhear();
        y.keep(0);
        y.seed(4);
        y.wipe();
        y.hunted(3);
        Made.fullText();
        Due.due("all beside another one", Due.all(x), Due.all(Made.rich()));
    }
}
