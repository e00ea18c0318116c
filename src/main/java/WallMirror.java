/** A queen's mirror: who is fairest of all alive, what follows from it, and what may be. */
public final class WallMirror {
    public static final int UNKNOWN = -1, BAD = -2, LATE = -3, FULL = -4, NONE = -9;

    private static final int MOST_BYTES = 40;
    private static final int MOST_PEOPLE = 6;
    private static final int MARKS = 3;
    private static final int MOST_ACTS = 14;
    private static final int MOST_HEARD = 6;
    private static final int SLOTS = 2;
    private static final int MOST_MORNINGS_JUDGED = 8;
    private static final int MOST_YEARS_OF_REIGN = 30;
    private static final int MOST_HUNTS = 30;
    private static final int TENTHS = 10;
    private static final int QUEEN = 0;
    private static final int QUEEN_ALONE = 1;
    /** Read as three figures, the numbers 1 to 999 are all rows of WEIGHTS but the one of nothing. */
    private static final int ROWS_OF_WEIGHTS = 999;
    /** More than any two rows of WEIGHTS are apart (27 at most). */
    private static final int FARTHER_THAN_ALL = 28;
    private static final long SEED_FACTOR = 6364136223846793005L;
    private static final long SEED_STEP = 1442695040888963407L;
    private static final int BITS_BELOW_UPPER_31 = 33;
    /** Far above the 46 that two ints can need. */
    private static final int MOST_STEPS_OF_DIVISION = 1000;

    private final Text text = new Text();
    private final Court now = new Court();
    /** A second court to try things on, made once so that no call makes one. */
    private final Court trial = new Court();
    private final Choosing choosing = new Choosing();
    private final int[] acts = new int[MOST_ACTS * Court.CELLS];
    private int nextAct = 0;
    private int actCount = 0;
    private final int[] slots = new int[SLOTS * Court.CELLS];
    private final boolean[] isKept = new boolean[SLOTS];
    private final int[] heardPerson = new int[MOST_HEARD];
    private final boolean[] heardIs = new boolean[MOST_HEARD];
    private int heardCount = 0;
    private long seed = 0;

    public WallMirror() {
    }

    // ---- the court

    public int write(int letter) {
        if (letter < 0 || letter > 255) {
            return BAD;
        }
        if (text.length >= MOST_BYTES) {
            return FULL;
        }
        text.append(letter);
        return text.length;
    }

    public int wipe() {
        int was = text.length;
        text.length = 0;
        return was;
    }

    public int fault() {
        return text.firstFault();
    }

    public int court() {
        if (text.firstFault() != NONE) {
            return LATE;
        }
        now.readFrom(text);
        forgetActs();
        for (int slot = 0; slot < SLOTS; slot++) {
            isKept[slot] = false;
        }
        return now.people;
    }

    public int about(int what) {
        switch (what) {
            case 0: return now.people;
            case 1: return now.alive;
            case 2: return now.reported;
            case 3: return now.fairestOf(now.alive);
            case 4: return now.mornings;
            case 5: return now.years;
            case 6: return now.weightsAsFigures();
            case 7: return actCount;
            case 8: return heardCount;
            case 9: return text.length;
            default: return BAD;
        }
    }

    public int person(int person, int what) {
        if (!now.has(person)) {
            return UNKNOWN;
        }
        switch (what) {
            case 0:
            case 1:
            case 2: return now.marks[person * MARKS + what];
            case 3: return now.ageing[person];
            case 4: return now.isAlive(person) ? 1 : 0;
            case 5: return now.isReported(person) ? 1 : 0;
            case 6: return now.valueOf(person);
            default: return BAD;
        }
    }

    // ---- acts

    public int morning() {
        if (now.people == 0) {
            return LATE;
        }
        rememberAct();
        int fairest = now.fairestOf(now.alive);
        now.passMorning();
        return fairest;
    }

    public int year() {
        rememberAct();
        now.passYear();
        return now.years;
    }

    public int plain(int person, int mark) {
        if (!now.has(person) || mark < 0 || mark >= MARKS) {
            return UNKNOWN;
        }
        int cell = person * MARKS + mark;
        if (!now.isAlive(person) || now.marks[cell] == 0) {
            return LATE;
        }
        rememberAct();
        now.marks[cell]--;
        return now.marks[cell];
    }

    public int hunt(int person, boolean lies) {
        if (!now.has(person)) {
            return UNKNOWN;
        }
        if (person == QUEEN) {
            return BAD;
        }
        if (!now.isAlive(person) || now.isReported(person)) {
            return LATE;
        }
        rememberAct();
        now.reported |= 1 << person;
        if (!lies) {
            now.alive &= ~(1 << person);
        }
        return now.aliveCount();
    }

    public int undo() {
        if (actCount == 0) {
            return LATE;
        }
        nextAct = (nextAct + MOST_ACTS - 1) % MOST_ACTS;
        actCount--;
        now.unpackFrom(acts, nextAct);
        return actCount;
    }

    // ---- what may be

    public int judged(int n, int row) {
        if (n < 1 || n > MOST_MORNINGS_JUDGED) {
            return BAD;
        }
        int figure = 1;
        for (int i = 1; i < n; i++) {
            figure *= 10;
        }
        if (row < 0 || row / figure > 9) {
            return BAD;
        }
        trial.copyFrom(now);
        for (int place = 0; place < n; place++) {
            int told = row / figure % 10;
            if ((trial.fairestOf(trial.alive) >> told & 1) == 0) {
                return place;
            }
            trial.passMorning();
            figure = Math.max(1, figure / 10);
        }
        return NONE;
    }

    public int hear(int person, boolean is) {
        if (!now.has(person)) {
            return UNKNOWN;
        }
        if (heardCount >= MOST_HEARD) {
            return FULL;
        }
        heardPerson[heardCount] = person;
        heardIs[heardCount] = is;
        heardCount++;
        return heardCount;
    }

    public int unhear() {
        int was = heardCount;
        heardCount = 0;
        return was;
    }

    public int worlds(int what) {
        if (what == 0) {
            return countWorlds(0);
        }
        if (what != 1) {
            return BAD;
        }
        int inAll = now.everybody();
        boolean found = false;
        for (int set = 0; set <= now.everybody(); set++) {
            if (isWorld(set) && fitsHeard(set)) {
                inAll &= set;
                found = true;
            }
        }
        return found ? inAll : NONE;
    }

    public int toAsk() {
        int all = countWorlds(0);
        if (all == 0) {
            return NONE;
        }
        int best = NONE;
        int bestFewer = -1;
        for (int person = 0; person < now.people; person++) {
            if (now.isReported(person)) {
                int with = countWorlds(1 << person);
                int fewer = Math.min(with, all - with);
                if (fewer > bestFewer) {
                    best = person;
                    bestFewer = fewer;
                }
            }
        }
        return best;
    }

    public int answer(int k, boolean useless) {
        if (k < 0 || k > MOST_PEOPLE) {
            return BAD;
        }
        int fairest = now.fairestOf(now.alive);
        int count = 0;
        int widest = NONE;
        for (int set = 0; set <= now.everybody(); set++) {
            boolean ofAlive = (set & ~now.alive) == 0;
            boolean hasFairest = (fairest & ~set) == 0;
            if (ofAlive && hasFairest && Integer.bitCount(set) == k) {
                count++;
                widest = set;
            }
        }
        return useless ? widest : count;
    }

    // ---- chosen, measured

    public int chosen(int person) {
        int refusal = refuseChooser(person);
        if (refusal != 0) {
            return refusal;
        }
        choosing.solve(now);
        return choosing.choiceOf(person);
    }

    public int chosenWorth(int person) {
        int refusal = refuseChooser(person);
        if (refusal != 0) {
            return refusal;
        }
        choosing.solve(now);
        return choosing.endOf(person);
    }

    public int measures(int person) {
        int refusal = refuseDead(person);
        if (refusal != 0) {
            return refusal;
        }
        trial.copyFrom(now);
        int count = 0;
        for (int row = 1; row <= ROWS_OF_WEIGHTS; row++) {
            trial.weighBy(row);
            if (trial.isFairestAlone(person)) {
                count++;
            }
        }
        return count;
    }

    public int nearest(int person) {
        int refusal = refuseDead(person);
        if (refusal != 0) {
            return refusal;
        }
        trial.copyFrom(now);
        int best = NONE;
        int bestDistance = FARTHER_THAN_ALL;
        for (int row = 1; row <= ROWS_OF_WEIGHTS; row++) {
            trial.weighBy(row);
            int distance = trial.weightsApartFrom(now);
            if (distance < bestDistance && trial.isFairestAlone(person)) {
                best = row;
                bestDistance = distance;
            }
        }
        return best;
    }

    public int reign(boolean mornings) {
        if (now.people == 0) {
            return LATE;
        }
        trial.copyFrom(now);
        for (int years = 0; years <= MOST_YEARS_OF_REIGN; years++) {
            if (!trial.isFairestAlone(QUEEN)) {
                return years;
            }
            if (mornings) {
                trial.passMorning();
            }
            trial.passYear();
        }
        return NONE;
    }

    public int differs(int weights) {
        if (weights < 1 || weights > ROWS_OF_WEIGHTS) {
            return BAD;
        }
        trial.copyFrom(now);
        trial.weighBy(weights);
        return now.fairestOf(now.alive) ^ trial.fairestOf(trial.alive);
    }

    public int rate(int person, int other, boolean upper) {
        if (!now.has(person) || !now.has(other)) {
            return UNKNOWN;
        }
        if (person == other) {
            return BAD;
        }
        trial.copyFrom(now);
        int count = 0;
        for (int row = 1; row <= ROWS_OF_WEIGHTS; row++) {
            trial.weighBy(row);
            if (trial.valueOf(person) > trial.valueOf(other)) {
                count++;
            }
        }
        return partOfFraction(count, ROWS_OF_WEIGHTS, upper);
    }

    // ---- sayings, chances

    public int saying(int person, int x, boolean upper) {
        if (!now.has(person)) {
            return UNKNOWN;
        }
        if (!isTenths(x)) {
            return BAD;
        }
        if (!now.isAlive(person)) {
            return LATE;
        }
        int fairest = now.fairestOf(now.alive);
        int above = now.leastOf(fairest) == person ? namingIfRight(x) : namingIfWrong(x);
        return partOfFraction(above, TENTHS * now.aliveCount(), upper);
    }

    public int believed(int person, int x, int y, boolean upper) {
        if (!now.has(person)) {
            return UNKNOWN;
        }
        if (!isTenths(x) || !isTenths(y)) {
            return BAD;
        }
        if (!now.isAlive(person)) {
            return LATE;
        }
        int right = namingIfRight(x) * namingIfRight(y);
        int wrong = (now.aliveCount() - 1) * namingIfWrong(x) * namingIfWrong(y);
        return partOfFraction(right, right + wrong, upper);
    }

    public int chance(int x, boolean upper) {
        if (!isTenths(x)) {
            return BAD;
        }
        if (now.people == 0) {
            return LATE;
        }
        int above = 0;
        int below = 0;
        for (int set = 0; set <= now.everybody(); set++) {
            if (isWorld(set)) {
                int likely = likelihoodOf(set, x);
                below += likely;
                if (now.fairestOf(set) == QUEEN_ALONE) {
                    above += likely;
                }
            }
        }
        return partOfFraction(above, below, upper);
    }

    public long seed(long v) {
        long was = seed;
        seed = v;
        return was;
    }

    public int hunted(int m) {
        if (m < 1 || m > MOST_HUNTS) {
            return BAD;
        }
        if (now.people == 0) {
            return LATE;
        }
        int left = now.alive;
        for (int i = 0; i < m; i++) {
            seed = seed * SEED_FACTOR + SEED_STEP;
            int person = (int) (seed >>> BITS_BELOW_UPPER_31) % now.people;
            if (person != QUEEN) {
                left &= ~(1 << person);
            }
        }
        return Integer.bitCount(left);
    }

    // ---- slots

    public int keep(int slot) {
        if (slot < 0 || slot >= SLOTS) {
            return UNKNOWN;
        }
        now.packInto(slots, slot);
        isKept[slot] = true;
        return now.aliveCount();
    }

    public int again(int slot) {
        if (slot < 0 || slot >= SLOTS) {
            return UNKNOWN;
        }
        if (!isKept[slot]) {
            return LATE;
        }
        now.unpackFrom(slots, slot);
        forgetActs();
        return now.aliveCount();
    }

    // ---- helpers of more than one call

    /** Puts aside how all stands ahead of an ACT; in a full row it takes the place of the first one. */
    private void rememberAct() {
        now.packInto(acts, nextAct);
        nextAct = (nextAct + 1) % MOST_ACTS;
        actCount = Math.min(actCount + 1, MOST_ACTS);
    }

    private void forgetActs() {
        nextAct = 0;
        actCount = 0;
    }

    private int refuseDead(int person) {
        if (!now.has(person)) {
            return UNKNOWN;
        }
        return now.isAlive(person) ? 0 : LATE;
    }

    private int refuseChooser(int person) {
        if (!now.has(person)) {
            return UNKNOWN;
        }
        if (person == QUEEN) {
            return BAD;
        }
        return now.isAlive(person) ? 0 : LATE;
    }

    /** Whether a set of those alive may be so by reports alone: of those not REPORTED none is missing. */
    private boolean isWorld(int set) {
        return (set | now.reported) == now.everybody();
    }

    private boolean fitsHeard(int set) {
        int fairest = now.fairestOf(set);
        for (int i = 0; i < heardCount; i++) {
            int person = heardPerson[i];
            // what was heard outlasts a court, so a new one may lack the person
            if (now.has(person) && ((fairest >> person & 1) == 1) != heardIs[i]) {
                return false;
            }
        }
        return true;
    }

    private int countWorlds(int within) {
        int count = 0;
        for (int set = 0; set <= now.everybody(); set++) {
            if ((set & within) == within && isWorld(set) && fitsHeard(set)) {
                count++;
            }
        }
        return count;
    }

    private static boolean isTenths(int x) {
        return x >= 0 && x <= TENTHS;
    }

    /** By how much of (10 times those alive) a courtier names one who is the one to be named. */
    private int namingIfRight(int x) {
        return x * now.aliveCount() + namingIfWrong(x);
    }

    /** By how much of (10 times those alive) a courtier names one who is not. */
    private static int namingIfWrong(int x) {
        return TENTHS - x;
    }

    private int likelihoodOf(int set, int x) {
        int likely = 1;
        for (int person = 0; person < now.people; person++) {
            if (now.isReported(person)) {
                likely *= (set >> person & 1) == 1 ? x : TENTHS - x;
            }
        }
        return likely;
    }

    private static int partOfFraction(int above, int below, boolean upper) {
        int common = commonDivisor(above, below);
        if (common == 0) {
            return 0;
        }
        return upper ? above / common : below / common;
    }

    private static int commonDivisor(int a, int b) {
        for (int step = 0; b != 0 && step < MOST_STEPS_OF_DIVISION; step++) {
            int rest = a % b;
            a = b;
            b = rest;
        }
        return a;
    }

    /** The bytes that were written, and whether they tell a court. */
    private static final class Text {
        private static final int FIRST_PERSON = 4;
        private static final int BYTES_OF_PERSON = 5;
        private static final int LONGEST_COURT = FIRST_PERSON + MOST_PEOPLE * BYTES_OF_PERSON;
        private static final int MOST_AGEING = 2;

        private final int[] bytes = new int[MOST_BYTES];
        private int length = 0;

        private void append(int letter) {
            if (length < MOST_BYTES) {
                bytes[length] = letter;
                length++;
            }
        }

        private int firstFault() {
            for (int place = 0; place < length; place++) {
                if (!fitsAt(place)) {
                    return place;
                }
            }
            boolean atEnd = length >= FIRST_PERSON && (length - FIRST_PERSON) % BYTES_OF_PERSON == 0;
            return atEnd ? NONE : length;
        }

        private boolean fitsAt(int place) {
            if (place >= LONGEST_COURT) {
                return false;
            }
            int letter = bytes[place];
            if (place == 0) {
                return letter == 'Q';
            }
            boolean isFigure = letter >= '0' && letter <= '9';
            if (place < FIRST_PERSON) {
                return isFigure && !(place == MARKS && areWeightsNothing());
            }
            int within = (place - FIRST_PERSON) % BYTES_OF_PERSON;
            if (within == 0) {
                return letter == 'P';
            }
            boolean isAgeing = within == BYTES_OF_PERSON - 1;
            return isFigure && (!isAgeing || letter - '0' <= MOST_AGEING);
        }

        private boolean areWeightsNothing() {
            for (int mark = 0; mark < MARKS; mark++) {
                if (weight(mark) != 0) {
                    return false;
                }
            }
            return true;
        }

        private int peopleTold() {
            return Math.max(0, length - FIRST_PERSON) / BYTES_OF_PERSON;
        }

        private int weight(int mark) {
            return bytes[1 + mark] - '0';
        }

        /** A figure behind the P of a person: its MARKS, then its AGEING. */
        private int figureOf(int person, int which) {
            return bytes[FIRST_PERSON + person * BYTES_OF_PERSON + 1 + which] - '0';
        }
    }

    /** How all stands: weights, people and what became of them. */
    private static final class Court {
        private static final int MARK_CELLS = MOST_PEOPLE * MARKS;
        /** What a row of a store holds of a court: WEIGHTS, MARKS and four counts or sets. */
        private static final int CELLS = MARKS + MARK_CELLS + 4;

        private int people = 0;
        private final int[] weights = {1, 1, 1};
        private final int[] marks = new int[MARK_CELLS];
        private final int[] ageing = new int[MOST_PEOPLE];
        private int alive = 0;
        private int reported = 0;
        private int mornings = 0;
        private int years = 0;

        private void readFrom(Text text) {
            people = Math.min(text.peopleTold(), MOST_PEOPLE);
            for (int mark = 0; mark < MARKS; mark++) {
                weights[mark] = text.weight(mark);
            }
            for (int person = 0; person < people; person++) {
                for (int mark = 0; mark < MARKS; mark++) {
                    marks[person * MARKS + mark] = text.figureOf(person, mark);
                }
                ageing[person] = text.figureOf(person, MARKS);
            }
            alive = everybody();
            reported = 0;
            mornings = 0;
            years = 0;
        }

        private void copyFrom(Court other) {
            people = other.people;
            System.arraycopy(other.weights, 0, weights, 0, MARKS);
            System.arraycopy(other.marks, 0, marks, 0, MARK_CELLS);
            System.arraycopy(other.ageing, 0, ageing, 0, MOST_PEOPLE);
            alive = other.alive;
            reported = other.reported;
            mornings = other.mornings;
            years = other.years;
        }

        /** People and AGEING are left out: they change only with a new court, which empties all stores. */
        private void packInto(int[] store, int row) {
            int at = row * CELLS;
            System.arraycopy(weights, 0, store, at, MARKS);
            System.arraycopy(marks, 0, store, at + MARKS, MARK_CELLS);
            int rest = at + MARKS + MARK_CELLS;
            store[rest] = alive;
            store[rest + 1] = reported;
            store[rest + 2] = mornings;
            store[rest + 3] = years;
        }

        private void unpackFrom(int[] store, int row) {
            int at = row * CELLS;
            System.arraycopy(store, at, weights, 0, MARKS);
            System.arraycopy(store, at + MARKS, marks, 0, MARK_CELLS);
            int rest = at + MARKS + MARK_CELLS;
            alive = store[rest];
            reported = store[rest + 1];
            mornings = store[rest + 2];
            years = store[rest + 3];
        }

        private boolean has(int person) {
            return person >= 0 && person < people;
        }

        private int everybody() {
            return (1 << people) - 1;
        }

        private boolean isAlive(int person) {
            return (alive >> person & 1) == 1;
        }

        private boolean isReported(int person) {
            return (reported >> person & 1) == 1;
        }

        private int aliveCount() {
            return Integer.bitCount(alive);
        }

        private int weightsAsFigures() {
            return weights[0] * 100 + weights[1] * 10 + weights[2];
        }

        private void weighBy(int figures) {
            weights[0] = figures / 100;
            weights[1] = figures / 10 % 10;
            weights[2] = figures % 10;
        }

        private int weightsApartFrom(Court other) {
            int apart = 0;
            for (int mark = 0; mark < MARKS; mark++) {
                apart += Math.abs(weights[mark] - other.weights[mark]);
            }
            return apart;
        }

        private int valueOf(int person) {
            int at = person * MARKS;
            return weights[0] * marks[at] + weights[1] * marks[at + 1] + weights[2] * marks[at + 2];
        }

        /** The VALUE of one if each of its MARKS were so much less. */
        private int valueIfPlain(int person, int less) {
            int value = 0;
            for (int mark = 0; mark < MARKS; mark++) {
                value += weights[mark] * Math.max(0, marks[person * MARKS + mark] - less);
            }
            return value;
        }

        private int fairestOf(int set) {
            int greatest = -1;
            int fairest = 0;
            for (int person = 0; person < people; person++) {
                if ((set >> person & 1) == 1) {
                    int value = valueOf(person);
                    if (value > greatest) {
                        greatest = value;
                        fairest = 0;
                    }
                    if (value == greatest) {
                        fairest |= 1 << person;
                    }
                }
            }
            return fairest;
        }

        private int leastOf(int set) {
            for (int person = 0; person < people; person++) {
                if ((set >> person & 1) == 1) {
                    return person;
                }
            }
            return NONE;
        }

        private boolean isFairestAlone(int person) {
            int value = valueOf(person);
            for (int other = 0; other < people; other++) {
                if (other != person && isAlive(other) && valueOf(other) >= value) {
                    return false;
                }
            }
            return true;
        }

        private void passMorning() {
            mornings++;
            int rival = leastOf(fairestOf(alive & ~QUEEN_ALONE));
            if (rival != NONE) {
                weighFearOf(rival);
            }
        }

        private void weighFearOf(int rival) {
            int worst = -1;
            int most = 0;
            for (int mark = 0; mark < MARKS; mark++) {
                int above = marks[rival * MARKS + mark] - marks[QUEEN * MARKS + mark];
                if (above > most) {
                    worst = mark;
                    most = above;
                }
            }
            boolean isLastWeight = weights[0] + weights[1] + weights[2] == 1;
            if (worst >= 0 && weights[worst] > 0 && !isLastWeight) {
                weights[worst]--;
            }
        }

        private void passYear() {
            years++;
            for (int person = 0; person < people; person++) {
                if (isAlive(person)) {
                    for (int mark = 0; mark < MARKS; mark++) {
                        int cell = person * MARKS + mark;
                        marks[cell] = Math.max(0, marks[cell] - ageing[person]);
                    }
                }
            }
        }
    }

    /** How plain all who choose will be, found from the last one back. */
    private static final class Choosing {
        private static final int OPTIONS = 3;
        private static final int MOST_CHOOSERS = MOST_PEOPLE - 1;
        private static final int ALL_ENDS = 243;
        /** How many ways so many choosers can choose. */
        private static final int[] WAYS = {1, 3, 9, 27, 81, 243};

        /** By chooser and choice, the VALUE it gives. */
        private final int[] values = new int[MOST_CHOOSERS * OPTIONS];
        private final int[] turnOf = new int[MOST_PEOPLE];
        /** An end is all choices read as figures of base 3, the first chooser's the highest. */
        private final int[] ends = new int[ALL_ENDS];
        private int choosers = 0;
        private int queenValue = 0;

        private void solve(Court court) {
            meet(court);
            for (int end = 0; end < WAYS[choosers]; end++) {
                ends[end] = end;
            }
            for (int turn = choosers - 1; turn >= 0; turn--) {
                for (int ahead = 0; ahead < WAYS[turn]; ahead++) {
                    // what is read lies at or behind what is written, so one row will do
                    ends[ahead] = bestEnd(turn, ahead);
                }
            }
        }

        private void meet(Court court) {
            queenValue = court.valueOf(QUEEN);
            choosers = 0;
            for (int person = QUEEN + 1; person < court.people; person++) {
                if (court.isAlive(person)) {
                    turnOf[person] = choosers;
                    for (int choice = 0; choice < OPTIONS; choice++) {
                        values[choosers * OPTIONS + choice] = court.valueIfPlain(person, choice);
                    }
                    choosers++;
                }
            }
        }

        /** Of the ends that one can reach at its turn, behind those ahead, the one it likes best. */
        private int bestEnd(int turn, int ahead) {
            int best = ends[ahead * OPTIONS];
            for (int choice = 1; choice < OPTIONS; choice++) {
                int end = ends[ahead * OPTIONS + choice];
                if (worthAt(end, turn) > worthAt(best, turn)) {
                    best = end;
                }
            }
            return best;
        }

        private int worthAt(int end, int turn) {
            int own = valueAt(end, turn);
            if (queenValue > own) {
                return own;
            }
            for (int other = 0; other < choosers; other++) {
                if (valueAt(end, other) > own) {
                    return own;
                }
            }
            return -1;
        }

        private int valueAt(int end, int turn) {
            return values[turn * OPTIONS + choiceAt(end, turn)];
        }

        private int choiceAt(int end, int turn) {
            return end / WAYS[choosers - 1 - turn] % OPTIONS;
        }

        private int choiceOf(int person) {
            return choiceAt(ends[0], turnOf[person]);
        }

        private int endOf(int person) {
            return worthAt(ends[0], turnOf[person]);
        }
    }
}
