/** The sentences of the promises 1 to 20 that name a boundary case: a method for each promise. */
public final class PromiseEdgeTest {
    private static final int NONE = -1, UNKNOWN = -101, OUTSIDE = -102, ROOM = -104;
    private static final int LEAST = Integer.MIN_VALUE, GREATEST = Integer.MAX_VALUE;
    private static final int[] NO_PERSONS = {LEAST, -102, -1, 8, GREATEST};
    private static final Check CHECK = new Check();

    public static void main(String[] args) {
        newObject();
        row();
        label();
        said();
        gold();
        bound();
        expert();
        person();
        rule();
        turn();
        table();
        says();
        saysAbstaining();
        abstains();
        votes();
        decided();
        learn();
        agree();
        all();
        nextRow();
        nextLeast();
        nextFewest();
        nextNone();
        about();
        aboutFull();
        aboutUnlike();
        CHECK.end();
    }

    private static void due(String call, long got, long want) {
        CHECK.due(call, got, want);
    }

    /** Rows that are not there, in an object with so many. */
    private static int[] noRows(int count) {
        return new int[] {LEAST, -101, -1, count, count + 1, 40, 41, GREATEST};
    }

    private static void newObject() {
        CHECK.sentence("No ROWS, no RULES.");
        LabelPeople x = new LabelPeople();
        int[] about = {0, 0, 0, 0, 0, 3, 0, 0};
        for (int what = 0; what < 8; what++) {
            due("about(" + what + ")", x.about(what), about[what]);
        }
        for (int number = 0; number < 6; number++) {
            int n = number;
            due("no row to label", x.label(0, n, 0), UNKNOWN);
            due("no row", x.said(0, n), UNKNOWN);
            due("no row to be gold", x.gold(n, 0), UNKNOWN);
            due("no row with votes", x.votes(n, 0), UNKNOWN);
            due("no row decided", x.decided(n), UNKNOWN);
            due("no rule to turn", x.turn(n, false), UNKNOWN);
            due("no rule to abstain", x.abstains(n), UNKNOWN);
            CHECK.dueThrow("no rule, no row", () -> x.says(n, n), IllegalArgumentException.class);
        }
        for (int p = 0; p < 8; p++) {
            due("no row next", x.next(p), NONE);
        }
        due("no rows of two", x.agree(0, 1, 2), 0);
        due("no rows of all", x.all(2), 0);
        LabelPeople other = Made.withWords("012");
        other.rule(3, 0, 0, 0);
        due("another object is another one", new LabelPeople().about(0), 0);
        due("nor a rule", new LabelPeople().about(2), 0);
    }

    private static void row() {
        CHECK.sentence("A ROW: its number. ROOM.");
        LabelPeople x = new LabelPeople();
        for (int k = 0; k < 40; k++) {
            due("not yet", x.decided(k), UNKNOWN);
            due("row", x.row(LEAST, GREATEST, 0, -1), k);
            due("now", x.decided(k), NONE);
        }
        for (int k = 0; k < 3; k++) {
            due("full", x.row(k, k, k, k), ROOM);
        }
        due("forty", x.about(0), 40);
        due("the last one", x.label(7, 39, 4), 1);
        LabelPeople two = new LabelPeople();
        two.row(5, 5, 5, 5);
        due("a row like another is another one", two.row(5, 5, 5, 5), 1);
    }

    private static void label() {
        CHECK.sentence("A PERSON labels a ROW: 1; 0: it had. UNKNOWN (person, row), OUTSIDE (label).");
        LabelPeople x = Made.withRows(3);
        for (int p : NO_PERSONS) {
            due("by " + p, x.label(p, 0, 0), UNKNOWN);
        }
        for (int r : noRows(3)) {
            due("of " + r, x.label(0, r, 0), UNKNOWN);
        }
        for (int l : new int[] {LEAST, -101, -2, -1, 5, GREATEST}) {
            due("with " + l, x.label(0, 0, l), OUTSIDE);
        }
        due("nothing was labelled", x.about(1), 0);
        due("the first", x.label(0, 0, 0), 1);
        due("it had", x.label(0, 0, 0), 0);
        due("it had another", x.label(0, 0, 4), 0);
        due("had, but no label", x.label(0, 0, 5), OUTSIDE);
        due("another person had not", x.label(7, 0, 4), 1);
        due("another row it had not", x.label(0, 2, 4), 1);
        x.gold(1, 3);
        due("a row that is gold", x.label(0, 1, 3), 1);
    }

    private static void said() {
        CHECK.sentence("What a PERSON said of a ROW; NONE. UNKNOWN.");
        LabelPeople x = Made.withWords("0.4", "...", "43.");
        int[][] due = {{0, NONE, 4}, {NONE, NONE, NONE}, {4, 3, NONE}, {NONE, NONE, NONE}};
        for (int p = 0; p < 4; p++) {
            for (int r = 0; r < 3; r++) {
                due("said(" + p + ", " + r + ")", x.said(p, r), due[p][r]);
            }
        }
        for (int p : NO_PERSONS) {
            due("person " + p, x.said(p, 0), UNKNOWN);
        }
        for (int r : noRows(3)) {
            due("row " + r, x.said(0, r), UNKNOWN);
        }
        x.gold(1, 2);
        due("gold is not said", x.said(0, 1), NONE);
    }

    private static void gold() {
        CHECK.sentence("A ROW is GOLD with a LABEL, or (NONE) it is not: what it was (NONE). UNKNOWN, OUTSIDE.");
        LabelPeople x = Made.withRows(3);
        due("none to none", x.gold(2, NONE), NONE);
        due("none to 0", x.gold(2, 0), NONE);
        due("0 to 0", x.gold(2, 0), 0);
        due("0 to 4", x.gold(2, 4), 0);
        for (int r : noRows(3)) {
            due("row " + r, x.gold(r, 0), UNKNOWN);
            due("row " + r + " to none", x.gold(r, NONE), UNKNOWN);
        }
        for (int l : new int[] {LEAST, -101, -2, 5, GREATEST}) {
            due("label " + l, x.gold(2, l), OUTSIDE);
        }
        due("one is", x.about(4), 1);
        due("4 to none", x.gold(2, NONE), 4);
        due("none to none again", x.gold(2, NONE), NONE);
        due("none is", x.about(4), 0);
    }

    private static void bound() {
        CHECK.sentence("BOUND becomes n: what it was. OUTSIDE.");
        LabelPeople x = new LabelPeople();
        int was = 3;
        for (int n = 9; n >= 1; n--) {
            due("bound(" + n + ")", x.bound(n), was);
            due("now", x.about(5), n);
            was = n;
        }
        due("the same", x.bound(1), 1);
        for (int n : new int[] {LEAST, -1, 0, 10, GREATEST}) {
            due("bound(" + n + ")", x.bound(n), OUTSIDE);
            due("unchanged", x.about(5), 1);
        }
    }

    private static void expert() {
        CHECK.sentence("A PERSON is an EXPERT, or not: 1 if that is new, else 0. UNKNOWN.");
        LabelPeople x = new LabelPeople();
        for (int p = 0; p < 8; p++) {
            due("not, as before", x.expert(p, false), 0);
            due("new", x.expert(p, true), 1);
            due("not new", x.expert(p, true), 0);
        }
        for (int p = 0; p < 8; p++) {
            due("no more", x.expert(p, false), 1);
            due("no more, as before", x.expert(p, false), 0);
        }
        for (int p : NO_PERSONS) {
            due("person " + p, x.expert(p, true), UNKNOWN);
            due("person " + p + " no more", x.expert(p, false), UNKNOWN);
        }
    }

    private static void person() {
        CHECK.sentence("what = 0 TRUST, 1 WRONG, 2 whether it is BARRED (1, 0), 3 how many ROWS it labelled.");
        LabelPeople x = Made.withRows(40);
        Made.record(x, 7, 38, 40);
        int[] due = {10, 2, 0, 40};
        int[] none = {10, 0, 0, 0};
        for (int what = 0; what < 4; what++) {
            due("person(7, " + what + ")", x.person(7, what), due[what]);
            due("person(0, " + what + ")", x.person(0, what), none[what]);
        }
        x.gold(0, 1);
        due("barred", x.person(7, 2), 1);
        x.learn(20);
        due("trust learned, 37 of 40", x.person(7, 0), 9);
        due("trust learned by none", x.person(0, 0), 1);
        CHECK.sentence("`int person(int person, int what)`: UNKNOWN, OUTSIDE.");
        for (int p : NO_PERSONS) {
            due("person " + p, x.person(p, 0), UNKNOWN);
            due("person " + p + " and what", x.person(p, 4), UNKNOWN);
        }
        for (int what : new int[] {LEAST, -1, 4, GREATEST}) {
            due("what " + what, x.person(0, what), OUTSIDE);
        }
    }

    private static void rule() {
        CHECK.sentence("A RULE: its number. OUTSIDE (kind; i, j 0 .. 3), ROOM.");
        LabelPeople x = new LabelPeople();
        for (int number : new int[] {LEAST, -1, 4, GREATEST}) {
            due("kind " + number, x.rule(number, 0, 0, 0), OUTSIDE);
            for (int kind = 0; kind < 4; kind++) {
                due("i " + number + ", kind " + kind, x.rule(kind, number, 0, 0), OUTSIDE);
                due("j " + number + ", kind " + kind, x.rule(kind, 0, number, 0), OUTSIDE);
            }
        }
        due("none is there", x.about(2), 0);
        int[][] sound = {{0, 0, 3, LEAST}, {1, 3, 0, GREATEST}, {2, 0, 3, LEAST}, {3, 3, 0, GREATEST}, {0, 3, 3, 0}};
        for (int k = 0; k < sound.length; k++) {
            due("rule " + k, x.rule(sound[k][0], sound[k][1], sound[k][2], sound[k][3]), k);
        }
        due("one refused between", x.rule(4, 0, 0, 0), OUTSIDE);
        due("the last", x.rule(0, 0, 0, 0), 5);
        due("full", x.rule(0, 0, 0, 0), ROOM);
        due("full and outside", x.rule(4, 0, 0, 0), OUTSIDE);
        due("full and i outside", x.rule(0, -1, 0, 0), OUTSIDE);
        due("full and j outside", x.rule(0, 0, 4, 0), OUTSIDE);
        due("six", x.about(2), 6);
    }

    private static void turn() {
        CHECK.sentence("A RULE is ON, or not: 1 if that is new, else 0. UNKNOWN.");
        LabelPeople x = Made.withRows(1);
        for (int k = 0; k < 6; k++) {
            for (int number : new int[] {LEAST, -1, k, k + 1, 6, GREATEST}) {
                due("no rule " + number, x.turn(number, true), UNKNOWN);
                due("no rule " + number, x.turn(number, false), UNKNOWN);
            }
            x.rule(3, 0, 0, 0);
            due("on as before", x.turn(k, true), 0);
            due("off", x.turn(k, false), 1);
            due("off as before", x.turn(k, false), 0);
            due("on", x.turn(k, true), 1);
        }
        x.turn(5, false);
        due("the others stay on", x.votes(0, 1), 5);
    }

    private static void table() {
        CHECK.sentence("THE TABLE has v at a place: what it had. OUTSIDE (0 .. 7).");
        LabelPeople x = new LabelPeople();
        for (int place = 0; place < 8; place++) {
            due("at first", x.table(place, LEAST + place), 0);
        }
        for (int place : new int[] {LEAST, -1, 8, GREATEST}) {
            due("place " + place, x.table(place, 1), OUTSIDE);
        }
        for (int place = 0; place < 8; place++) {
            due("what it had", x.table(place, GREATEST - place), LEAST + place);
        }
        for (int place = 7; place >= 0; place--) {
            due("what it had then", x.table(place, OUTSIDE), GREATEST - place);
            due("any int", x.table(place, 0), OUTSIDE);
        }
    }

    private static void says() {
        CHECK.sentence("The LABEL that a RULE says of a ROW (ON or not). IllegalArgumentException: there is no such RULE, ROW.");
        LabelPeople x = Made.withRows(2);
        x.rule(3, 0, 0, 1);
        x.rule(0, 0, 1, 0);
        due("on", x.says(0, 0), 0);
        due("on", x.says(0, 1), 1);
        x.turn(0, false);
        due("off", x.says(0, 0), 0);
        due("off", x.says(0, 1), 1);
        for (int r : noRows(2)) {
            CHECK.dueThrow("row " + r, () -> x.says(0, r), IllegalArgumentException.class);
            CHECK.dueThrow("row " + r + ", a rule that abstains", () -> x.says(1, r), IllegalArgumentException.class);
        }
        for (int number : new int[] {LEAST, -1, 2, 6, GREATEST}) {
            CHECK.dueThrow("rule " + number, () -> x.says(number, 0), IllegalArgumentException.class);
            CHECK.dueThrow("rule and row " + number, () -> x.says(number, number), IllegalArgumentException.class);
        }
    }

    private static void saysAbstaining() {
        CHECK.sentence("ArithmeticException, ArrayIndexOutOfBoundsException: it ABSTAINS.");
        LabelPeople x = Made.withRows(9);
        x.rule(0, 0, 1, 0);
        x.rule(1, 0, 1, 0);
        x.rule(2, 0, 0, 0);
        x.rule(2, 1, 0, -1);
        for (int k = 0; k < 2; k++) {
            CHECK.dueThrow("division", () -> x.says(0, 8), ArithmeticException.class);
            CHECK.dueThrow("rest", () -> x.says(1, 0), ArithmeticException.class);
            CHECK.dueThrow("place 8", () -> x.says(2, 8), ArrayIndexOutOfBoundsException.class);
            CHECK.dueThrow("place -1", () -> x.says(3, 0), ArrayIndexOutOfBoundsException.class);
            due("place 7", x.says(2, 7), 0);
            for (int rule = 0; rule < 4; rule++) {
                x.turn(rule, false);
            }
        }
    }

    private static void abstains() {
        CHECK.sentence("On how many ROWS a RULE ABSTAINS. UNKNOWN.");
        LabelPeople x = new LabelPeople();
        int[][] rules = {{0, 1, 0, 0}, {1, 0, 1, 0}, {2, 0, 0, 0}, {2, 0, 0, -39}, {3, 0, 0, 0}, {2, 0, 0, LEAST}};
        for (int k = 0; k < 6; k++) {
            for (int number : new int[] {LEAST, -1, k, 6, GREATEST}) {
                due("no rule " + number, x.abstains(number), UNKNOWN);
            }
            x.rule(rules[k][0], rules[k][1], rules[k][2], rules[k][3]);
            due("no rows", x.abstains(k), 0);
        }
        for (int k = 0; k < 40; k++) {
            x.row(k, 0, 0, 0);
        }
        int[] due = {1, 40, 32, 39, 0, 40};
        for (int k = 0; k < 6; k++) {
            due("rule " + k, x.abstains(k), due[k]);
            x.turn(k, false);
            x.gold(k, 0);
            due("rule " + k + ", off", x.abstains(k), due[k]);
        }
    }

    private static void votes() {
        CHECK.sentence("VOTES of a LABEL on a ROW. UNKNOWN, OUTSIDE.");
        LabelPeople x = Made.withRows(2);
        for (int l = 0; l < 5; l++) {
            due("none", x.votes(1, l), 0);
        }
        for (int r : noRows(2)) {
            due("row " + r, x.votes(r, 0), UNKNOWN);
            due("row " + r + " and label", x.votes(r, 5), UNKNOWN);
        }
        for (int l : new int[] {LEAST, -1, 5, GREATEST}) {
            due("label " + l, x.votes(1, l), OUTSIDE);
        }
        x.label(0, 1, 0);
        x.label(7, 1, 4);
        x.rule(3, 1, 0, 1);
        int[] due = {11, 0, 0, 0, 10};
        for (int l = 0; l < 5; l++) {
            due("label " + l, x.votes(1, l), due[l]);
            due("another row", x.votes(0, l), l == 0 ? 1 : 0);
        }
        x.learn(1);
        due("by a trust of 1, the least", x.votes(1, 4), 1);
        due("by a trust of 10, the most", x.votes(1, 0), 11);
    }

    private static void decided() {
        CHECK.sentence("The LABEL DECIDED of a ROW; NONE: it is OPEN. UNKNOWN.");
        LabelPeople x = Made.withWords("004", ".14");
        due("label 0", x.decided(0), 0);
        due("open", x.decided(1), NONE);
        due("label 4", x.decided(2), 4);
        for (int r : noRows(3)) {
            due("row " + r, x.decided(r), UNKNOWN);
        }
    }

    private static void learn() {
        CHECK.sentence("LEARNING, up to n ROUNDS: how many there were. OUTSIDE (1 .. 20).");
        LabelPeople x = Made.withWords("00", "01");
        for (int n : new int[] {LEAST, -1, 0, 21, GREATEST}) {
            due("learn(" + n + ")", x.learn(n), OUTSIDE);
            due("as at first", x.person(7, 0), 10);
        }
        due("1", x.learn(1), 1);
        due("learned", x.person(7, 0), 1);
        due("2", x.learn(2), 2);
        due("3", x.learn(3), 2);
        due("20", x.learn(20), 2);
        for (int n : new int[] {LEAST, -1, 0, 21, GREATEST}) {
            due("learn(" + n + ")", x.learn(n), OUTSIDE);
            due("as learned", x.person(7, 0), 1);
        }
    }

    private static void agree() {
        CHECK.sentence("IllegalArgumentException: there is no such PERSON, they are the same, what.");
        LabelPeople x = Made.withWords("01", "01");
        for (int p : NO_PERSONS) {
            for (int what = 0; what < 4; what++) {
                int w = what;
                CHECK.dueThrow("agree(" + p + ", 0, " + w + ")", () -> x.agree(p, 0, w), IllegalArgumentException.class);
                CHECK.dueThrow("agree(0, " + p + ", " + w + ")", () -> x.agree(0, p, w), IllegalArgumentException.class);
                CHECK.dueThrow("agree(" + p + ", " + p + ", " + w + ")", () -> x.agree(p, p, w), IllegalArgumentException.class);
            }
        }
        for (int p = 0; p < 8; p++) {
            for (int what = 0; what < 4; what++) {
                int one = p;
                int w = what;
                CHECK.dueThrow("the same, " + p, () -> x.agree(one, one, w), IllegalArgumentException.class);
            }
        }
        for (int what : new int[] {LEAST, -1, 4, GREATEST}) {
            CHECK.dueThrow("what " + what, () -> x.agree(0, 1, what), IllegalArgumentException.class);
            CHECK.dueThrow("what " + what + " without rows", () -> x.agree(0, 7, what), IllegalArgumentException.class);
        }
        CHECK.sentence("what = 0 the numerator, 1 the denominator, 2 n, 3 a.");
        int[] due = {1, 1, 2, 2};
        for (int what = 0; what < 4; what++) {
            due("what " + what, x.agree(0, 1, what), due[what]);
        }
    }

    private static void all() {
        CHECK.sentence("IllegalArgumentException: what.");
        LabelPeople x = Made.withWords("012", "01.", "1..");
        LabelPeople none = new LabelPeople();
        for (int what : new int[] {LEAST, -1, 4, GREATEST}) {
            CHECK.dueThrow("what " + what, () -> x.all(what), IllegalArgumentException.class);
            CHECK.dueThrow("what " + what + " without rows", () -> none.all(what), IllegalArgumentException.class);
        }
        CHECK.sentence("what = 0 the numerator, 1 the denominator, 2 r, 3 C.");
        int[] due = {11, 36, 2, 5};
        for (int what = 0; what < 4; what++) {
            due("what " + what, x.all(what), due[what]);
        }
    }

    private static void nextRow() {
        CHECK.sentence("of those that it did not, and that are not GOLD");
        LabelPeople x = Made.withRows(40);
        for (int row = 0; row < 39; row++) {
            if (row % 2 == 0) {
                x.label(7, row, 0);
            } else {
                x.gold(row, 0);
            }
        }
        due("the last row alone", x.next(7), 39);
        due("of another one", x.next(0), 39);
        x.gold(39, 0);
        due("none for this one", x.next(7), NONE);
        due("the first for another one", x.next(0), 0);
        x.gold(37, NONE);
        due("gold no more", x.next(7), 37);
        x.label(7, 37, 0);
        due("labelled", x.next(7), NONE);
    }

    private static void nextLeast() {
        CHECK.sentence("that whose most VOTES are the least above the second most; of these that with the fewest labellings");
        LabelPeople x = Made.withWords("0000.", "00.1.", "00...");
        int[] order = {4, 3, 2, 0, 1};
        for (int row : order) {
            due("in its order", x.next(7), row);
            x.gold(row, 4);
        }
        due("none", x.next(7), NONE);
        LabelPeople tie = Made.withWords("00", "11", "22", "3");
        due("a tie with fewer labellings", tie.next(7), 1);
        tie.label(3, 1, 3);
        due("the first of these", tie.next(7), 0);
        tie.rule(3, 0, 0, 1);
        tie.turn(0, false);
        due("a rule that is off", tie.next(7), 0);
        tie.table(0, 4);
        tie.rule(2, 0, 0, 0);
        due("one vote of a rule on both", tie.next(7), 0);
        LabelPeople one = Made.withRows(2);
        one.rule(2, 0, 0, 7);
        due("a lead of 1 and one of 0", one.next(0), 1);
        one.label(1, 1, 3);
        due("a lead of 1 and one of 10", one.next(0), 0);
        one.label(2, 1, 4);
        due("a lead of 1 and one of 0, by two labels", one.next(0), 1);
        one.learn(20);
        due("the same by a trust of 1", one.next(0), 1);
        LabelPeople rising = Made.withWords("00", "01", ".1");
        due("20 above 0, and 20 above 10 by a later label", rising.next(7), 1);
    }

    private static void nextFewest() {
        CHECK.sentence("of these that with the fewest labellings, of these the first.");
        LabelPeople x = Made.withRows(4);
        x.bound(1);
        x.gold(0, 0);
        x.label(0, 0, 1);
        due("no labelling", x.next(7), 1);
        x.label(0, 1, 1);
        due("a labelling of a barred one counts", x.next(7), 2);
        x.label(0, 2, 1);
        x.label(0, 3, 1);
        due("the first of equals", x.next(7), 1);
        x.label(1, 1, 0);
        x.label(2, 1, 2);
        due("the first of the equals that are left", x.next(7), 2);
        LabelPeople none = new LabelPeople();
        none.row(0, 0, 0, 0);
        none.row(1, 0, 1, 0);
        none.row(0, 0, 0, 0);
        none.rule(0, 1, 0, 0);
        none.rule(0, 2, 0, 0);
        none.bound(1);
        none.gold(2, 0);
        none.label(0, 0, 0);
        none.label(0, 2, 1);
        due("no votes at all and a tie are alike", none.next(7), 1);
    }

    private static void nextNone() {
        CHECK.sentence("NONE: there is none, or it is BARRED. UNKNOWN.");
        LabelPeople x = new LabelPeople();
        for (int p : NO_PERSONS) {
            due("person " + p, x.next(p), UNKNOWN);
        }
        for (int p = 0; p < 8; p++) {
            due("no rows", x.next(p), NONE);
        }
        x.row(0, 0, 0, 0);
        x.row(0, 0, 0, 0);
        x.label(5, 0, 0);
        x.gold(0, 1);
        due("wrong, not barred", x.next(5), 1);
        x.bound(1);
        due("barred", x.next(5), NONE);
        due("another one is not", x.next(4), 1);
        x.bound(2);
        due("barred no more", x.next(5), 1);
        x.label(5, 1, 0);
        due("all are labelled or gold", x.next(5), NONE);
        x.gold(1, 0);
        due("all are gold", x.next(4), NONE);
    }

    private static void about() {
        CHECK.sentence("What = 0 ROWS, 1 labellings, 2 RULES, 3 ROWS that are DECIDED, 4 ROWS that are GOLD, 5 BOUND");
        LabelPeople x = Made.withWords("000.", "001.", "1...");
        x.rule(0, 1, 1, 0);
        x.gold(3, 4);
        x.gold(0, 0);
        x.bound(1);
        int[] due = {4, 7, 1, 3, 2, 1, 1, 0};
        for (int what = 0; what < 8; what++) {
            due("about(" + what + ")", x.about(what), due[what]);
        }
        CHECK.sentence("`int about(int what)`: OUTSIDE.");
        for (int what : new int[] {LEAST, -102, -1, 8, 9, GREATEST}) {
            due("about(" + what + ")", x.about(what), OUTSIDE);
        }
    }

    private static void aboutFull() {
        CHECK.sentence("`int about(int what)` in full");
        LabelPeople x = Made.withRows(40);
        x.rule(3, 0, 0, 0);
        for (int k = 1; k < 6; k++) {
            x.rule(3, 0, 0, 40);
        }
        for (int k = 0; k < 320; k++) {
            x.label(k / 40, k % 40, 4);
        }
        for (int row = 0; row < 40; row++) {
            x.gold(row, 0);
        }
        x.bound(9);
        int[] due = {40, 320, 6, 40, 40, 9, 8, 40};
        for (int what = 0; what < 8; what++) {
            due("about(" + what + ")", x.about(what), due[what]);
        }
    }

    private static void aboutUnlike() {
        CHECK.sentence("7 ROWS of which two RULES that are ON say unlike LABELS.");
        LabelPeople x = Made.withRows(8);
        x.rule(2, 0, 0, 0);
        due("one rule", x.about(7), 0);
        x.rule(2, 0, 0, 1);
        due("two alike", x.about(7), 0);
        x.table(7, 5);
        due("unlike numbers, one label", x.about(7), 0);
        x.table(7, 6);
        due("row 6 alone: of row 7 the second abstains", x.about(7), 1);
        x.turn(1, false);
        due("one is off", x.about(7), 0);
        x.rule(3, 0, 0, 7);
        due("two that are on, alike", x.about(7), 0);
        for (int k = 3; k < 6; k++) {
            x.rule(3, 0, 0, 8);
        }
        due("the last ones are unlike on row 7", x.about(7), 1);
        x.turn(1, true);
        due("rows 6 and 7", x.about(7), 2);
        x.label(0, 0, 4);
        x.gold(1, 4);
        due("labels of persons are of no matter", x.about(7), 2);
    }
}
