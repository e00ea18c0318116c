import java.math.BigInteger;
import java.util.ArrayDeque;
import java.util.ArrayList;
import java.util.Arrays;
import java.util.Comparator;
import java.util.Deque;
import java.util.List;
import java.util.TreeSet;
import java.util.regex.Matcher;
import java.util.regex.Pattern;
import java.util.stream.Collectors;

/**
 * The document told a second time, by other means than the program's (copies, lists, recursion, all tried out), so
 * that runs of both can be compared. It is slow and makes objects freely.
 */
final class PlainMirror {
    private static final Pattern COURT =
        Pattern.compile("Q([1-9][0-9][0-9]|0[1-9][0-9]|00[1-9])(P[0-9]{3}[0-2]){0,6}");

    /** One of the people; never changed once it is made. */
    private record One(List<Integer> marks, int ageing, boolean alive, boolean reported) {
        One less(int by) {
            return new One(marks.stream().map(mark -> Math.max(0, mark - by)).toList(), ageing, alive, reported);
        }

        int value(List<Integer> weights) {
            int sum = 0;
            for (int i = 0; i < 3; i++) {
                for (int times = 0; times < weights.get(i); times++) {
                    sum += marks.get(i);
                }
            }
            return sum;
        }
    }

    /** How all stands; never changed once it is made. */
    private record State(List<Integer> weights, List<One> people, int mornings, int years) {
        List<Integer> alive() {
            List<Integer> list = new ArrayList<>();
            for (int i = 0; i < people.size(); i++) {
                if (people.get(i).alive) {
                    list.add(i);
                }
            }
            return list;
        }

        TreeSet<Integer> fairest(List<Integer> among, List<Integer> by) {
            int most = among.stream().mapToInt(p -> people.get(p).value(by)).max().orElse(0);
            return among.stream().filter(p -> people.get(p).value(by) == most)
                .collect(Collectors.toCollection(TreeSet::new));
        }

        TreeSet<Integer> fairest() {
            return fairest(alive(), weights);
        }

        State with(int person, One one) {
            List<One> list = new ArrayList<>(people);
            list.set(person, one);
            return new State(weights, list, mornings, years);
        }

        State morning() {
            List<Integer> moved = new ArrayList<>(weights);
            List<Integer> others = alive().stream().filter(p -> p != 0).toList();
            if (!others.isEmpty()) {
                One rival = people.get(fairest(others, weights).first());
                Integer worst = null;
                for (int i = 2; i >= 0; i--) {
                    int above = rival.marks.get(i) - people.get(0).marks.get(i);
                    boolean asFar = worst == null
                        || above >= rival.marks.get(worst) - people.get(0).marks.get(worst);
                    if (above > 0 && asFar) {
                        worst = i;
                    }
                }
                if (worst != null && weights.get(worst) > 0) {
                    moved.set(worst, weights.get(worst) - 1);
                }
                if (moved.equals(List.of(0, 0, 0))) {
                    moved = weights;
                }
            }
            return new State(moved, people, mornings + 1, years);
        }

        State year() {
            List<One> aged = people.stream().map(one -> one.alive ? one.less(one.ageing) : one).toList();
            return new State(weights, aged, mornings, years + 1);
        }
    }

    private record Heard(int person, boolean is) {
    }

    private StringBuilder text = new StringBuilder();
    private State now = new State(List.of(1, 1, 1), List.of(), 0, 0);
    private final Deque<State> acts = new ArrayDeque<>();
    private final State[] slots = new State[2];
    private final List<Heard> heard = new ArrayList<>();
    private BigInteger seed = BigInteger.ZERO;

    private static int bits(Iterable<Integer> people) {
        int bits = 0;
        for (int person : people) {
            bits += 1 << person;
        }
        return bits;
    }

    private boolean unknown(int person) {
        return person < 0 || person >= now.people.size();
    }

    private boolean dead(int person) {
        return !now.people.get(person).alive;
    }

    private void act(State next) {
        acts.addLast(now);
        if (acts.size() > 14) {
            acts.removeFirst();
        }
        now = next;
    }

    int write(int letter) {
        if (letter < 0 || letter > 255) {
            return -2;
        }
        if (text.length() == 40) {
            return -4;
        }
        return text.append((char) letter).length();
    }

    int wipe() {
        int was = text.length();
        text = new StringBuilder();
        return was;
    }

    int fault() {
        for (int length = 1; length <= text.length(); length++) {
            Matcher matcher = COURT.matcher(text.substring(0, length));
            if (!matcher.matches() && !matcher.hitEnd()) {
                return length - 1;
            }
        }
        return COURT.matcher(text).matches() ? -9 : text.length();
    }

    int court() {
        if (fault() != -9) {
            return -3;
        }
        String[] told = text.toString().split("P");
        List<Integer> weights = told[0].substring(1).chars().mapToObj(c -> c - '0').toList();
        List<One> people = new ArrayList<>();
        for (int i = 1; i < told.length; i++) {
            List<Integer> figures = told[i].chars().mapToObj(c -> c - '0').toList();
            people.add(new One(figures.subList(0, 3), figures.get(3), true, false));
        }
        now = new State(weights, people, 0, 0);
        acts.clear();
        Arrays.fill(slots, null);
        return people.size();
    }

    private List<Integer> reported() {
        List<Integer> list = new ArrayList<>();
        for (int i = 0; i < now.people.size(); i++) {
            if (now.people.get(i).reported) {
                list.add(i);
            }
        }
        return list;
    }

    int about(int what) {
        List<Integer> w = now.weights;
        int[] told = {now.people.size(), bits(now.alive()), bits(reported()), bits(now.fairest()), now.mornings,
            now.years, 100 * w.get(0) + 10 * w.get(1) + w.get(2), acts.size(), heard.size(), text.length()};
        return what < 0 || what > 9 ? -2 : told[what];
    }

    int person(int person, int what) {
        if (unknown(person)) {
            return -1;
        }
        One one = now.people.get(person);
        List<Integer> m = one.marks;
        int[] told = {m.get(0), m.get(1), m.get(2), one.ageing, one.alive ? 1 : 0, one.reported ? 1 : 0,
            one.value(now.weights)};
        return what < 0 || what > 6 ? -2 : told[what];
    }

    int morning() {
        if (now.people.isEmpty()) {
            return -3;
        }
        int fairest = bits(now.fairest());
        act(now.morning());
        return fairest;
    }

    int year() {
        act(now.year());
        return now.years;
    }

    int plain(int person, int mark) {
        if (unknown(person) || mark < 0 || mark > 2) {
            return -1;
        }
        One one = now.people.get(person);
        if (dead(person) || one.marks.get(mark) == 0) {
            return -3;
        }
        List<Integer> marks = new ArrayList<>(one.marks);
        marks.set(mark, marks.get(mark) - 1);
        act(now.with(person, new One(marks, one.ageing, true, one.reported)));
        return marks.get(mark);
    }

    int hunt(int person, boolean lies) {
        if (unknown(person)) {
            return -1;
        }
        if (person == 0) {
            return -2;
        }
        One one = now.people.get(person);
        if (!one.alive || one.reported) {
            return -3;
        }
        act(now.with(person, new One(one.marks, one.ageing, lies, true)));
        return now.alive().size();
    }

    int undo() {
        if (acts.isEmpty()) {
            return -3;
        }
        now = acts.removeLast();
        return acts.size();
    }

    int judged(int n, int row) {
        if (n < 1 || n > 8 || row < 0 || Integer.toString(row).length() > n) {
            return -2;
        }
        String figures = String.format("%0" + n + "d", row);
        State state = now;
        for (int i = 0; i < n; i++) {
            if (!state.fairest().contains(figures.charAt(i) - '0')) {
                return i;
            }
            state = state.morning();
        }
        return -9;
    }

    int hear(int person, boolean is) {
        if (unknown(person)) {
            return -1;
        }
        if (heard.size() == 6) {
            return -4;
        }
        heard.add(new Heard(person, is));
        return heard.size();
    }

    int unhear() {
        int was = heard.size();
        heard.clear();
        return was;
    }

    /** All sets of those alive that reports leave open. */
    private List<TreeSet<Integer>> openSets() {
        List<TreeSet<Integer>> sets = new ArrayList<>();
        sets.add(new TreeSet<>());
        for (int person = 0; person < now.people.size(); person++) {
            List<TreeSet<Integer>> more = new ArrayList<>();
            for (TreeSet<Integer> set : sets) {
                TreeSet<Integer> with = new TreeSet<>(set);
                with.add(person);
                more.add(with);
                if (now.people.get(person).reported) {
                    more.add(set);
                }
            }
            sets = more;
        }
        return sets;
    }

    private List<TreeSet<Integer>> fitting() {
        return openSets().stream().filter(set -> {
            TreeSet<Integer> fairest = now.fairest(new ArrayList<>(set), now.weights);
            return heard.stream().filter(h -> !unknown(h.person)).allMatch(h -> fairest.contains(h.person) == h.is);
        }).toList();
    }

    int worlds(int what) {
        if (what != 0 && what != 1) {
            return -2;
        }
        List<TreeSet<Integer>> sets = fitting();
        if (what == 0) {
            return sets.size();
        }
        if (sets.isEmpty()) {
            return -9;
        }
        TreeSet<Integer> inAll = new TreeSet<>(sets.get(0));
        sets.forEach(inAll::retainAll);
        return bits(inAll);
    }

    int toAsk() {
        List<TreeSet<Integer>> sets = fitting();
        if (sets.isEmpty()) {
            return -9;
        }
        Comparator<Integer> byFewer = Comparator.comparing(person -> {
            long with = sets.stream().filter(set -> set.contains(person)).count();
            long without = sets.stream().filter(set -> !set.contains(person)).count();
            return -Math.min(with, without);
        });
        return reported().stream().min(byFewer.thenComparing(Comparator.naturalOrder())).orElse(-9);
    }

    int answer(int k, boolean useless) {
        if (k < 0 || k > 6) {
            return -2;
        }
        TreeSet<Integer> found = new TreeSet<>();
        for (int bits = 0; bits < 64; bits++) {
            TreeSet<Integer> set = new TreeSet<>();
            for (int person = 0; person < 6; person++) {
                if ((bits & 1 << person) != 0) {
                    set.add(person);
                }
            }
            if (set.size() == k && now.alive().containsAll(set) && set.containsAll(now.fairest())) {
                found.add(bits);
            }
        }
        if (!useless) {
            return found.size();
        }
        return found.isEmpty() ? -9 : found.last();
    }

    /** Choices of all, given those of the first ones who choose. */
    private List<Integer> play(List<Integer> choosers, List<Integer> ahead) {
        if (ahead.size() == choosers.size()) {
            return ahead;
        }
        List<Integer> best = null;
        for (int choice = 0; choice < 3; choice++) {
            List<Integer> more = new ArrayList<>(ahead);
            more.add(choice);
            List<Integer> end = play(choosers, more);
            int turn = ahead.size();
            if (best == null || worth(choosers, end, turn) > worth(choosers, best, turn)) {
                best = end;
            }
        }
        return best;
    }

    private int worth(List<Integer> choosers, List<Integer> choices, int turn) {
        State state = now;
        for (int i = 0; i < choosers.size(); i++) {
            int person = choosers.get(i);
            state = state.with(person, state.people.get(person).less(choices.get(i)));
        }
        int person = choosers.get(turn);
        return state.fairest().contains(person) ? -1 : state.people.get(person).value(now.weights);
    }

    private int refusedChooser(int person) {
        if (unknown(person)) {
            return -1;
        }
        if (person == 0) {
            return -2;
        }
        return dead(person) ? -3 : 0;
    }

    int chosen(int person) {
        if (refusedChooser(person) != 0) {
            return refusedChooser(person);
        }
        List<Integer> choosers = now.alive().subList(1, now.alive().size());
        return play(choosers, List.of()).get(choosers.indexOf(person));
    }

    int chosenWorth(int person) {
        if (refusedChooser(person) != 0) {
            return refusedChooser(person);
        }
        List<Integer> choosers = now.alive().subList(1, now.alive().size());
        return worth(choosers, play(choosers, List.of()), choosers.indexOf(person));
    }

    private static List<List<Integer>> allWeights() {
        List<List<Integer>> all = new ArrayList<>();
        for (int a = 0; a < 10; a++) {
            for (int b = 0; b < 10; b++) {
                for (int c = 0; c < 10; c++) {
                    if (a + b + c > 0) {
                        all.add(List.of(a, b, c));
                    }
                }
            }
        }
        return all;
    }

    private static final List<List<Integer>> ALL_WEIGHTS = allWeights();

    private List<List<Integer>> aloneBy(int person) {
        List<Integer> alive = now.alive();
        TreeSet<Integer> alone = new TreeSet<>(List.of(person));
        return ALL_WEIGHTS.stream().filter(by -> now.fairest(alive, by).equals(alone)).toList();
    }

    int measures(int person) {
        if (unknown(person)) {
            return -1;
        }
        return dead(person) ? -3 : aloneBy(person).size();
    }

    private int apart(List<Integer> weights) {
        int sum = 0;
        for (int i = 0; i < 3; i++) {
            sum += Math.max(weights.get(i), now.weights.get(i)) - Math.min(weights.get(i), now.weights.get(i));
        }
        return sum;
    }

    int nearest(int person) {
        if (unknown(person)) {
            return -1;
        }
        if (dead(person)) {
            return -3;
        }
        List<List<Integer>> rows = new ArrayList<>(aloneBy(person));
        rows.sort(Comparator.<List<Integer>>comparingInt(this::apart).thenComparing(row -> row.get(0))
            .thenComparing(row -> row.get(1)).thenComparing(row -> row.get(2)));
        if (rows.isEmpty()) {
            return -9;
        }
        return Integer.parseInt(rows.get(0).stream().map(String::valueOf).collect(Collectors.joining()));
    }

    int reign(boolean mornings) {
        if (now.people.isEmpty()) {
            return -3;
        }
        State state = now;
        int years = 0;
        while (years <= 30 && state.fairest().equals(new TreeSet<>(List.of(0)))) {
            state = mornings ? state.morning().year() : state.year();
            years++;
        }
        return years > 30 ? -9 : years;
    }

    int differs(int weights) {
        if (weights < 1 || weights > 999) {
            return -2;
        }
        TreeSet<Integer> one = now.fairest();
        TreeSet<Integer> other = now.fairest(now.alive(), ALL_WEIGHTS.get(weights - 1));
        TreeSet<Integer> either = new TreeSet<>(one);
        either.addAll(other);
        either.removeIf(person -> one.contains(person) && other.contains(person));
        return bits(either);
    }

    private static int part(long above, long below, boolean upper) {
        BigInteger a = BigInteger.valueOf(above);
        BigInteger b = BigInteger.valueOf(below);
        BigInteger common = a.gcd(b);
        return (upper ? a : b).divide(common).intValueExact();
    }

    int rate(int person, int other, boolean upper) {
        if (unknown(person) || unknown(other)) {
            return -1;
        }
        if (person == other) {
            return -2;
        }
        long count = ALL_WEIGHTS.stream()
            .filter(by -> now.people.get(person).value(by) > now.people.get(other).value(by)).count();
        return part(count, 999, upper);
    }

    int saying(int person, int x, boolean upper) {
        if (unknown(person)) {
            return -1;
        }
        if (x < 0 || x > 10) {
            return -2;
        }
        if (dead(person)) {
            return -3;
        }
        int alive = now.alive().size();
        long above = now.fairest().first() == person ? x * alive : 0;
        return part(above + 10 - x, 10L * alive, upper);
    }

    int believed(int person, int x, int y, boolean upper) {
        if (unknown(person)) {
            return -1;
        }
        if (x < 0 || x > 10 || y < 0 || y > 10) {
            return -2;
        }
        if (dead(person)) {
            return -3;
        }
        // each of those alive may be the one, and each courtier either tells the one or names by lot
        long named = 0;
        long isIt = 0;
        int alive = now.alive().size();
        for (int one : now.alive()) {
            long first = one == person ? x * alive + 10 - x : 10 - x;
            long second = one == person ? y * alive + 10 - y : 10 - y;
            named += first * second;
            isIt += one == person ? first * second : 0;
        }
        return part(isIt, named, upper);
    }

    int chance(int x, boolean upper) {
        if (x < 0 || x > 10) {
            return -2;
        }
        if (now.people.isEmpty()) {
            return -3;
        }
        long above = 0;
        long below = 1;
        for (int i = 0; i < reported().size(); i++) {
            below *= 10;
        }
        for (TreeSet<Integer> set : openSets()) {
            long ways = 1;
            for (int person : reported()) {
                ways *= set.contains(person) ? x : 10 - x;
            }
            if (now.fairest(new ArrayList<>(set), now.weights).equals(new TreeSet<>(List.of(0)))) {
                above += ways;
            }
        }
        return part(above, below, upper);
    }

    long seed(long v) {
        long was = seed.longValue();
        seed = BigInteger.valueOf(v);
        return was;
    }

    int hunted(int m) {
        if (m < 1 || m > 30) {
            return -2;
        }
        if (now.people.isEmpty()) {
            return -3;
        }
        BigInteger bound = BigInteger.ONE.shiftLeft(64);
        TreeSet<Integer> left = new TreeSet<>(now.alive());
        for (int i = 0; i < m; i++) {
            seed = seed.multiply(new BigInteger("6364136223846793005")).add(new BigInteger("1442695040888963407"))
                .mod(bound);
            int person = seed.shiftRight(33).mod(BigInteger.valueOf(now.people.size())).intValue();
            if (person > 0) {
                left.remove(person);
            }
        }
        return left.size();
    }

    int keep(int slot) {
        if (slot < 0 || slot > 1) {
            return -1;
        }
        slots[slot] = now;
        return now.alive().size();
    }

    int again(int slot) {
        if (slot < 0 || slot > 1) {
            return -1;
        }
        if (slots[slot] == null) {
            return -3;
        }
        now = slots[slot];
        acts.clear();
        return now.alive().size();
    }
}
