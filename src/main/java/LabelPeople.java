import java.util.Arrays;

/**
 * Labels given by persons: how far two persons, or all, agree beyond chance; votes weighted by a learned
 * trust; rows whose label is known; experts; weak rules; and the row that a person is to label next.
 */
public final class LabelPeople {
    public static final int NONE = -1, UNKNOWN = -101, OUTSIDE = -102, ROOM = -104;

    private static final int ROWS = 40;
    private static final int FEATURES = 4;
    private static final int PERSONS = 8;
    private static final int LABELS = 5;
    private static final int RULES = 6;
    private static final int KINDS = 4;
    private static final int PLACES = 8;
    private static final int FIRST_TRUST = 10;
    private static final int FIRST_BOUND = 3;
    private static final int HIGHEST_BOUND = 9;
    private static final int MOST_ROUNDS = 20;
    private static final int PARTS = 4;

    private final Sheet sheet;
    private final RuleBook book;
    private final Agreement agreement;
    private final boolean[] experts;
    private final int[] trust;
    private int barredFrom;

    // Used again by every call that counts, so that no call makes an array.
    private final int[] tally;
    private final int[] decisions;
    private final int[] freshTrust;

    public LabelPeople() {
        sheet = new Sheet();
        book = new RuleBook();
        agreement = new Agreement();
        experts = new boolean[PERSONS];
        trust = new int[PERSONS];
        Arrays.fill(trust, FIRST_TRUST);
        barredFrom = FIRST_BOUND;
        tally = new int[LABELS];
        decisions = new int[ROWS];
        freshTrust = new int[PERSONS];
    }

    public int row(int f0, int f1, int f2, int f3) {
        return sheet.addRow(f0, f1, f2, f3);
    }

    public int label(int person, int row, int label) {
        if (!isPerson(person) || !sheet.hasRow(row)) {
            return UNKNOWN;
        }
        if (!isLabel(label)) {
            return OUTSIDE;
        }
        if (sheet.given(person, row) != NONE) {
            return 0;
        }
        sheet.give(person, row, label);
        return 1;
    }

    public int said(int person, int row) {
        if (!isPerson(person) || !sheet.hasRow(row)) {
            return UNKNOWN;
        }
        return sheet.given(person, row);
    }

    public int gold(int row, int label) {
        if (!sheet.hasRow(row)) {
            return UNKNOWN;
        }
        if (label != NONE && !isLabel(label)) {
            return OUTSIDE;
        }
        int before = sheet.known(row);
        sheet.setKnown(row, label);
        return before;
    }

    public int bound(int n) {
        if (n < 1 || n > HIGHEST_BOUND) {
            return OUTSIDE;
        }
        int before = barredFrom;
        barredFrom = n;
        return before;
    }

    public int expert(int person, boolean is) {
        if (!isPerson(person)) {
            return UNKNOWN;
        }
        boolean isNew = experts[person] != is;
        experts[person] = is;
        return isNew ? 1 : 0;
    }

    public int person(int person, int what) {
        if (!isPerson(person)) {
            return UNKNOWN;
        }
        switch (what) {
            case 0:
                return trust[person];
            case 1:
                return sheet.wrongOf(person);
            case 2:
                return isBarred(person) ? 1 : 0;
            case 3:
                return sheet.givenBy(person);
            default:
                return OUTSIDE;
        }
    }

    public int rule(int kind, int i, int j, int c) {
        if (kind < 0 || kind >= KINDS || !isFeature(i) || !isFeature(j)) {
            return OUTSIDE;
        }
        return book.addRule(kind, i, j, c);
    }

    public int turn(int rule, boolean on) {
        if (!book.hasRule(rule)) {
            return UNKNOWN;
        }
        boolean isNew = book.isOn(rule) != on;
        book.setOn(rule, on);
        return isNew ? 1 : 0;
    }

    public int table(int place, int v) {
        if (!isPlace(place)) {
            return OUTSIDE;
        }
        return book.replace(place, v);
    }

    public int says(int rule, int row)
            throws IllegalArgumentException, ArithmeticException, ArrayIndexOutOfBoundsException {
        if (!book.hasRule(rule) || !sheet.hasRow(row)) {
            throw new IllegalArgumentException("there is no such rule or row");
        }
        int word = book.wordOn(rule, sheet, row);
        if (word == RuleBook.NO_QUOTIENT) {
            throw new ArithmeticException("the rule abstains: division by 0");
        }
        if (word == RuleBook.NO_PLACE) {
            throw new ArrayIndexOutOfBoundsException("the rule abstains: no such place");
        }
        return word;
    }

    public int abstains(int rule) {
        if (!book.hasRule(rule)) {
            return UNKNOWN;
        }
        int count = 0;
        for (int row = 0; row < sheet.size(); row++) {
            if (!isLabel(book.wordOn(rule, sheet, row))) {
                count++;
            }
        }
        return count;
    }

    public int votes(int row, int label) {
        if (!sheet.hasRow(row)) {
            return UNKNOWN;
        }
        if (!isLabel(label)) {
            return OUTSIDE;
        }
        countVotes(row);
        return tally[label];
    }

    public int decided(int row) {
        if (!sheet.hasRow(row)) {
            return UNKNOWN;
        }
        return decide(row);
    }

    public int learn(int n) {
        if (n < 1 || n > MOST_ROUNDS) {
            return OUTSIDE;
        }
        Arrays.fill(trust, FIRST_TRUST);
        for (int round = 1; round < n; round++) {
            if (!learnRound()) {
                return round;
            }
        }
        learnRound();
        return n;
    }

    public long agree(int one, int other, int what) throws IllegalArgumentException, ArithmeticException {
        if (!isPerson(one) || !isPerson(other) || one == other) {
            throw new IllegalArgumentException("these are not two persons");
        }
        if (what < 0 || what >= PARTS) {
            throw new IllegalArgumentException("there is no such part");
        }
        agreement.measureTwo(sheet, one, other);
        return partOfAgreement(what);
    }

    public long all(int what) throws IllegalArgumentException, ArithmeticException {
        if (what < 0 || what >= PARTS) {
            throw new IllegalArgumentException("there is no such part");
        }
        agreement.measureAll(sheet);
        return partOfAgreement(what);
    }

    public int next(int person) {
        if (!isPerson(person)) {
            return UNKNOWN;
        }
        if (isBarred(person)) {
            return NONE;
        }
        int best = NONE;
        int bestLead = 0;
        int bestGiven = 0;
        for (int row = 0; row < sheet.size(); row++) {
            if (sheet.given(person, row) != NONE || sheet.known(row) != NONE) {
                continue;
            }
            countVotes(row);
            int lead = leadInTally();
            int given = sheet.givenOn(row);
            if (best == NONE || lead < bestLead || lead == bestLead && given < bestGiven) {
                best = row;
                bestLead = lead;
                bestGiven = given;
            }
        }
        return best;
    }

    public int about(int what) {
        switch (what) {
            case 0:
                return sheet.size();
            case 1:
                return countLabellings();
            case 2:
                return book.size();
            case 3:
                return countDecided();
            case 4:
                return sheet.countKnown();
            case 5:
                return barredFrom;
            case 6:
                return countBarred();
            case 7:
                return countDisputed();
            default:
                return OUTSIDE;
        }
    }

    private static boolean isPerson(int person) {
        return person >= 0 && person < PERSONS;
    }

    private static boolean isLabel(int label) {
        return label >= 0 && label < LABELS;
    }

    private static boolean isFeature(int feature) {
        return feature >= 0 && feature < FEATURES;
    }

    private static boolean isPlace(int place) {
        return place >= 0 && place < PLACES;
    }

    private boolean isBarred(int person) {
        return sheet.wrongOf(person) >= barredFrom;
    }

    /** Leaves the votes of each label on the row in the tally. */
    private void countVotes(int row) {
        Arrays.fill(tally, 0);
        for (int person = 0; person < PERSONS; person++) {
            int given = sheet.given(person, row);
            if (isLabel(given) && !isBarred(person)) {
                tally[given] += trust[person];
            }
        }
        for (int rule = 0; rule < book.size(); rule++) {
            int word = book.isOn(rule) ? book.wordOn(rule, sheet, row) : NONE;
            if (isLabel(word)) {
                tally[word]++;
            }
        }
    }

    private int decide(int row) {
        if (sheet.known(row) != NONE) {
            return sheet.known(row);
        }
        countVotes(row);
        int winner = winnerInTally();
        return winner != NONE ? winner : expertOn(row);
    }

    private int winnerInTally() {
        int winner = NONE;
        int most = 0;
        for (int label = 0; label < LABELS; label++) {
            if (tally[label] > most) {
                most = tally[label];
                winner = label;
            } else if (tally[label] == most) {
                winner = NONE;
            }
        }
        return winner;
    }

    private int expertOn(int row) {
        for (int person = 0; person < PERSONS; person++) {
            int given = sheet.given(person, row);
            if (experts[person] && given != NONE && !isBarred(person)) {
                return given;
            }
        }
        return NONE;
    }

    private int leadInTally() {
        int most = 0;
        int second = 0;
        for (int label = 0; label < LABELS; label++) {
            if (tally[label] > most) {
                second = most;
                most = tally[label];
            } else if (tally[label] > second) {
                second = tally[label];
            }
        }
        return most - second;
    }

    /** Whether the round changed any trust. */
    private boolean learnRound() {
        for (int row = 0; row < sheet.size(); row++) {
            decisions[row] = decide(row);
        }
        // None is changed before all are known: each trust is to come from the same decisions.
        boolean changed = false;
        for (int person = 0; person < PERSONS; person++) {
            freshTrust[person] = earnedTrust(person);
            if (freshTrust[person] != trust[person]) {
                changed = true;
            }
        }
        System.arraycopy(freshTrust, 0, trust, 0, PERSONS);
        return changed;
    }

    private int earnedTrust(int person) {
        int labelled = 0;
        int hits = 0;
        for (int row = 0; row < sheet.size(); row++) {
            int given = sheet.given(person, row);
            if (given == NONE || decisions[row] == NONE) {
                continue;
            }
            labelled++;
            if (given == decisions[row]) {
                hits++;
            }
        }
        return labelled == 0 ? 1 : 1 + 9 * hits / labelled;
    }

    private long partOfAgreement(int what) throws ArithmeticException {
        if (what == 2) {
            return agreement.rowCount();
        }
        if (what == 3) {
            return agreement.secondCount();
        }
        if (agreement.denominator() == 0) {
            throw new ArithmeticException("the denominator is 0");
        }
        return what == 0 ? agreement.numerator() : agreement.denominator();
    }

    private int countLabellings() {
        int count = 0;
        for (int person = 0; person < PERSONS; person++) {
            count += sheet.givenBy(person);
        }
        return count;
    }

    private int countDecided() {
        int count = 0;
        for (int row = 0; row < sheet.size(); row++) {
            if (decide(row) != NONE) {
                count++;
            }
        }
        return count;
    }

    private int countBarred() {
        int count = 0;
        for (int person = 0; person < PERSONS; person++) {
            if (isBarred(person)) {
                count++;
            }
        }
        return count;
    }

    private int countDisputed() {
        int count = 0;
        for (int row = 0; row < sheet.size(); row++) {
            if (isDisputed(row)) {
                count++;
            }
        }
        return count;
    }

    private boolean isDisputed(int row) {
        int first = NONE;
        for (int rule = 0; rule < book.size(); rule++) {
            int word = book.isOn(rule) ? book.wordOn(rule, sheet, row) : NONE;
            if (!isLabel(word)) {
                continue;
            }
            if (first != NONE && word != first) {
                return true;
            }
            first = word;
        }
        return false;
    }

    /** The rows: their features, who gave them which label, and which label is known. */
    private static final class Sheet {
        private final int[][] features;
        private final int[][] given;
        private final int[] known;
        // Kept, not counted when asked: each vote asks whether its person is barred.
        private final int[] wrong;
        private int size;

        Sheet() {
            features = new int[FEATURES][ROWS];
            given = new int[PERSONS][ROWS];
            for (int person = 0; person < PERSONS; person++) {
                Arrays.fill(given[person], NONE);
            }
            known = new int[ROWS];
            Arrays.fill(known, NONE);
            wrong = new int[PERSONS];
        }

        int size() {
            return size;
        }

        boolean hasRow(int row) {
            return row >= 0 && row < size;
        }

        int addRow(int f0, int f1, int f2, int f3) {
            if (size >= ROWS) {
                return ROOM;
            }
            features[0][size] = f0;
            features[1][size] = f1;
            features[2][size] = f2;
            features[3][size] = f3;
            return size++;
        }

        int feature(int feature, int row) {
            return features[feature][row];
        }

        int given(int person, int row) {
            return given[person][row];
        }

        void give(int person, int row, int label) {
            given[person][row] = label;
            countWrong(person);
        }

        int known(int row) {
            return known[row];
        }

        void setKnown(int row, int label) {
            known[row] = label;
            for (int person = 0; person < PERSONS; person++) {
                countWrong(person);
            }
        }

        int wrongOf(int person) {
            return wrong[person];
        }

        int givenBy(int person) {
            int count = 0;
            for (int row = 0; row < size; row++) {
                if (given[person][row] != NONE) {
                    count++;
                }
            }
            return count;
        }

        int givenOn(int row) {
            int count = 0;
            for (int person = 0; person < PERSONS; person++) {
                if (given[person][row] != NONE) {
                    count++;
                }
            }
            return count;
        }

        int countKnown() {
            int count = 0;
            for (int row = 0; row < size; row++) {
                if (known[row] != NONE) {
                    count++;
                }
            }
            return count;
        }

        private void countWrong(int person) {
            int count = 0;
            for (int row = 0; row < size; row++) {
                int word = given[person][row];
                if (word != NONE && known[row] != NONE && word != known[row]) {
                    count++;
                }
            }
            wrong[person] = count;
        }
    }

    /** The rules, and the table that one kind of them reads. */
    private static final class RuleBook {
        // Below every label, so that a word is a label or says why there is none.
        static final int NO_QUOTIENT = -2;
        static final int NO_PLACE = -3;

        private final int[] kinds;
        private final int[] firsts;
        private final int[] seconds;
        private final int[] constants;
        private final boolean[] on;
        private final int[] places;
        private int size;

        RuleBook() {
            kinds = new int[RULES];
            firsts = new int[RULES];
            seconds = new int[RULES];
            constants = new int[RULES];
            on = new boolean[RULES];
            places = new int[PLACES];
        }

        int size() {
            return size;
        }

        boolean hasRule(int rule) {
            return rule >= 0 && rule < size;
        }

        int addRule(int kind, int i, int j, int c) {
            if (size >= RULES) {
                return ROOM;
            }
            kinds[size] = kind;
            firsts[size] = i;
            seconds[size] = j;
            constants[size] = c;
            on[size] = true;
            return size++;
        }

        boolean isOn(int rule) {
            return on[rule];
        }

        void setOn(int rule, boolean is) {
            on[rule] = is;
        }

        int replace(int place, int value) {
            int before = places[place];
            places[place] = value;
            return before;
        }

        /** The label that the rule says of the row, or NO_QUOTIENT or NO_PLACE where it abstains. */
        int wordOn(int rule, Sheet sheet, int row) {
            int first = sheet.feature(firsts[rule], row);
            int second = sheet.feature(seconds[rule], row);
            switch (kinds[rule]) {
                case 0:
                    return second == 0 ? NO_QUOTIENT : Math.floorMod(first / second, LABELS);
                case 1:
                    return second == 0 ? NO_QUOTIENT : Math.floorMod(first % second, LABELS);
                case 2:
                    int place = first + constants[rule];
                    return isPlace(place) ? Math.floorMod(places[place], LABELS) : NO_PLACE;
                default:
                    return first < constants[rule] ? 0 : 1;
            }
        }
    }

    /** Agreement beyond chance, measured anew at each call; its denominator is 0 where there is none. */
    private static final class Agreement {
        // All the pairs of 2 .. 8 labellings divide it, so that a row's share of like pairs is whole.
        private static final long WHOLE = 840;
        // Far above the steps that Euclid's way takes for any two longs.
        private static final int MOST_STEPS = 200;

        private final int[] oneGave;
        private final int[] otherGave;
        private long top;
        private long bottom;
        private int rowCount;
        private int secondCount;

        Agreement() {
            oneGave = new int[LABELS];
            otherGave = new int[LABELS];
        }

        long numerator() {
            return top;
        }

        long denominator() {
            return bottom;
        }

        int rowCount() {
            return rowCount;
        }

        /** The rows with one label, of two persons; the labellings, of all. */
        int secondCount() {
            return secondCount;
        }

        void measureTwo(Sheet sheet, int one, int other) {
            startCounts();
            Arrays.fill(otherGave, 0);
            for (int row = 0; row < sheet.size(); row++) {
                int first = sheet.given(one, row);
                int second = sheet.given(other, row);
                if (!isLabel(first) || !isLabel(second)) {
                    continue;
                }
                oneGave[first]++;
                otherGave[second]++;
                rowCount++;
                secondCount += first == second ? 1 : 0;
            }
            long n = rowCount;
            long s = sumOfProducts(oneGave, otherGave);
            setFraction(n * secondCount - s, n * n - s);
        }

        void measureAll(Sheet sheet) {
            startCounts();
            long shares = 0;
            for (int row = 0; row < sheet.size(); row++) {
                int labellings = sheet.givenOn(row);
                if (labellings < 2) {
                    continue;
                }
                rowCount++;
                secondCount += labellings;
                long pairs = labellings * (labellings - 1) / 2;
                shares += WHOLE * likePairs(sheet, row) / pairs;
                countLabels(sheet, row);
            }
            long scale = WHOLE * rowCount;
            long square = (long) secondCount * secondCount;
            long s = sumOfProducts(oneGave, oneGave);
            setFraction(shares * square - s * scale, scale * (square - s));
        }

        private void startCounts() {
            Arrays.fill(oneGave, 0);
            rowCount = 0;
            secondCount = 0;
        }

        private void countLabels(Sheet sheet, int row) {
            for (int person = 0; person < PERSONS; person++) {
                int given = sheet.given(person, row);
                if (isLabel(given)) {
                    oneGave[given]++;
                }
            }
        }

        private static int likePairs(Sheet sheet, int row) {
            int count = 0;
            for (int one = 0; one < PERSONS; one++) {
                int given = sheet.given(one, row);
                for (int other = 0; other < one; other++) {
                    if (given != NONE && given == sheet.given(other, row)) {
                        count++;
                    }
                }
            }
            return count;
        }

        private static long sumOfProducts(int[] some, int[] others) {
            long sum = 0;
            for (int label = 0; label < LABELS; label++) {
                sum += (long) some[label] * others[label];
            }
            return sum;
        }

        private void setFraction(long over, long under) {
            long divisor = commonDivisor(over < 0 ? -over : over, under);
            if (divisor == 0) {
                divisor = 1;
            }
            top = over / divisor;
            bottom = under / divisor;
        }

        private static long commonDivisor(long a, long b) {
            long left = a;
            long right = b;
            for (int step = 0; step < MOST_STEPS && right != 0; step++) {
                long rest = left % right;
                left = right;
                right = rest;
            }
            return left;
        }
    }
}
