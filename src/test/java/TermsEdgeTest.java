/** The sentences of 'Terms', sections 1 and 2, that name a boundary case: a method for each of them. */
public final class TermsEdgeTest {
    private static final int NONE = -1, UNKNOWN = -101, OUTSIDE = -102, ROOM = -104;
    private static final int LEAST = Integer.MIN_VALUE, GREATEST = Integer.MAX_VALUE;
    private static final Check CHECK = new Check();

    public static void main(String[] args) {
        calls512();
        rows40();
        features();
        persons();
        labels();
        labelsOnce();
        mayBeGold();
        wrongOnes();
        barredWhile();
        boundFrom1To9();
        experts();
        trustAtFirst();
        rules6();
        onAtFirst();
        modulo5();
        quotients();
        rests();
        places();
        tableAtFirst();
        belowC();
        wrappingQuotients();
        wrappingPlaces();
        divisionByZero();
        noSuchPlace();
        votesOfPersons();
        votesOfRules();
        decidedByGold();
        decidedByVotes();
        decidedAboveZero();
        decidedByExperts();
        decidedByExpertsNotBarred();
        openElse();
        CHECK.end();
    }

    private static void due(String call, long got, long want) {
        CHECK.due(call, got, want);
    }

    private static void calls512() {
        CHECK.sentence("An object is used for at most 512 calls after it has been made");
        LabelPeople x = Made.withRows(40);
        for (int k = 0; k < 320; k++) {
            x.label(k / 40, k % 40, k % 5);
        }
        for (int k = 0; k < 6; k++) {
            x.rule(3, 0, 0, 20);
        }
        for (int call = 367; call < 512; call++) {
            int row = call % 40;
            int byRules = row % 5 == (row < 20 ? 0 : 1) ? 6 : 0;
            due("call " + call, x.votes(row, row % 5), 80 + byRules);
        }
        due("call 512", x.learn(20), 1);
    }

    private static void rows40() {
        CHECK.sentence("(40 at most)");
        LabelPeople x = Made.withRows(39);
        due("before the last", x.label(0, 39, 0), UNKNOWN);
        due("the 40th", x.row(1, 2, 3, 4), 39);
        due("the 41st", x.row(1, 2, 3, 4), ROOM);
        due("the 42nd", x.row(LEAST, 2, 3, 4), ROOM);
        due("rows", x.about(0), 40);
        due("the last is there", x.label(0, 39, 0), 1);
        due("none behind it", x.label(0, 40, 0), UNKNOWN);
    }

    private static void features() {
        CHECK.sentence("have FEATURES 0 .. 3 (ints).");
        int[] values = {LEAST, LEAST + 1, -1, 0, 1, GREATEST - 1, GREATEST};
        for (int f = 0; f < 4; f++) {
            LabelPeople x = new LabelPeople();
            for (int v : values) {
                x.row(f == 0 ? v : 7, f == 1 ? v : 7, f == 2 ? v : 7, f == 3 ? v : 7);
            }
            int[] cs = {LEAST, LEAST + 1, 0, 1, GREATEST};
            for (int k = 0; k < cs.length; k++) {
                due("a rule", x.rule(3, f, 3 - f, cs[k]), k);
                for (int row = 0; row < values.length; row++) {
                    due("feature " + f + " of " + values[row] + " by " + cs[k], x.says(k, row), values[row] < cs[k] ? 0 : 1);
                }
            }
            due("no feature 4", x.rule(3, 4, 0, 0), OUTSIDE);
            due("no feature -1", x.rule(3, -1, 0, 0), OUTSIDE);
        }
    }

    private static void persons() {
        CHECK.sentence("PERSONS are 0 .. 7");
        LabelPeople x = Made.withRows(1);
        int[] others = {LEAST, -1, 8, GREATEST};
        for (int p : others) {
            due("label by " + p, x.label(p, 0, 0), UNKNOWN);
            due("said of " + p, x.said(p, 0), UNKNOWN);
            due("expert " + p, x.expert(p, true), UNKNOWN);
            due("person " + p, x.person(p, 0), UNKNOWN);
            due("next of " + p, x.next(p), UNKNOWN);
            CHECK.dueThrow("agree " + p, () -> x.agree(p, 0, 2), IllegalArgumentException.class);
            CHECK.dueThrow("agree with " + p, () -> x.agree(7, p, 2), IllegalArgumentException.class);
        }
        due("none of them labelled", x.about(1), 0);
        for (int p = 0; p < 8; p++) {
            due("said of " + p, x.said(p, 0), NONE);
            due("next of " + p, x.next(p), 0);
            due("label by " + p, x.label(p, 0, p % 5), 1);
            due("said of " + p, x.said(p, 0), p % 5);
            due("expert " + p, x.expert(p, true), 1);
            due("person " + p, x.person(p, 3), 1);
        }
        due("the first and the last", x.agree(0, 7, 2), 1);
        due("the last and the first", x.agree(7, 0, 2), 1);
    }

    private static void labels() {
        CHECK.sentence("LABELS 0 .. 4.");
        LabelPeople x = Made.withRows(5);
        int[] others = {LEAST, -2, 5, GREATEST};
        for (int other : others) {
            due("label " + other, x.label(0, 0, other), OUTSIDE);
            due("gold " + other, x.gold(0, other), OUTSIDE);
            due("votes of " + other, x.votes(0, other), OUTSIDE);
        }
        due("label -1", x.label(0, 0, -1), OUTSIDE);
        due("votes of -1", x.votes(0, -1), OUTSIDE);
        for (int l = 0; l < 5; l++) {
            due("label " + l, x.label(0, l, l), 1);
            due("said", x.said(0, l), l);
            due("votes of " + l, x.votes(l, l), 10);
            due("gold " + l, x.gold(l, l), NONE);
            due("decided", x.decided(l), l);
        }
    }

    private static void labelsOnce() {
        CHECK.sentence("A PERSON labels a ROW once: what it says later does not count.");
        LabelPeople x = Made.withWords("0", "0");
        due("another label", x.label(0, 0, 1), 0);
        due("the same label", x.label(0, 0, 0), 0);
        due("what it said first", x.said(0, 0), 0);
        due("votes of the first", x.votes(0, 0), 20);
        due("no votes of the later", x.votes(0, 1), 0);
        due("labellings", x.about(1), 2);
        due("its rows", x.person(0, 3), 1);
        due("alike", x.agree(0, 1, 3), 1);
        due("of all", x.all(3), 2);
        x.gold(0, 1);
        due("not after gold either", x.label(0, 0, 1), 0);
        due("still wrong", x.person(0, 1), 1);
        x.gold(0, NONE);
        x.learn(20);
        due("not after learning either", x.label(0, 0, 2), 0);
        due("the first still", x.said(0, 0), 0);
    }

    private static void mayBeGold() {
        CHECK.sentence("A ROW may be GOLD: its LABEL is known.");
        LabelPeople x = Made.withRows(40);
        due("none at first", x.about(4), 0);
        for (int row = 0; row < 40; row++) {
            due("open", x.decided(row), NONE);
            due("was not", x.gold(row, row % 5), NONE);
            due("known", x.decided(row), row % 5);
            due("counted", x.about(4), row + 1);
        }
        due("the last no more", x.gold(39, NONE), 4);
        due("counted", x.about(4), 39);
        due("open again", x.decided(39), NONE);
    }

    private static void wrongOnes() {
        CHECK.sentence("WRONG of a PERSON: how many of its LABELS on ROWS that are GOLD are other ones.");
        LabelPeople x = Made.withWords("01234.", ".....0");
        due("none is gold", x.person(0, 1), 0);
        x.gold(0, 0);
        due("the known one", x.person(0, 1), 0);
        x.gold(1, 0);
        due("another one", x.person(0, 1), 1);
        x.gold(5, 4);
        due("on a row that it did not label", x.person(0, 1), 1);
        due("of the one that labelled it", x.person(1, 1), 1);
        x.gold(4, 0);
        due("two", x.person(0, 1), 2);
        due("later, known before", x.label(0, 5, 3), 1);
        due("three", x.person(0, 1), 3);
        x.gold(5, 3);
        due("the known one becomes its own", x.person(0, 1), 2);
        x.gold(1, NONE);
        due("gold no more", x.person(0, 1), 1);
        due("who labelled nothing", x.person(7, 1), 0);
        LabelPeople full = Made.withRows(40);
        Made.record(full, 7, 0, 40);
        due("all forty", full.person(7, 1), 40);
        due("barred far above the bound", full.person(7, 2), 1);
    }

    private static void barredWhile() {
        CHECK.sentence("It is BARRED while WRONG is BOUND");
        LabelPeople x = Made.withWords("1111");
        x.gold(0, 0);
        due("1 of 3", x.person(0, 2), 0);
        x.gold(1, 0);
        due("2 of 3", x.person(0, 2), 0);
        x.gold(2, 0);
        due("3 of 3", x.person(0, 2), 1);
        x.gold(3, 0);
        due("4 of 3", x.person(0, 2), 1);
        x.gold(0, NONE);
        due("3 again", x.person(0, 2), 1);
        x.gold(1, 1);
        due("2 again", x.person(0, 2), 0);
        x.bound(2);
        due("2 of 2", x.person(0, 2), 1);
        x.bound(3);
        due("2 of 3 again", x.person(0, 2), 0);
        due("without any label", x.person(1, 2), 0);
        x.bound(1);
        due("without any label, bound 1", x.person(1, 2), 0);
    }

    private static void boundFrom1To9() {
        CHECK.sentence("(1 .. 9; at first 3) or more.");
        LabelPeople x = Made.withRows(10);
        due("at first", x.about(5), 3);
        Made.record(x, 0, 0, 10);
        Made.record(x, 1, 0, 9);
        Made.record(x, 2, 0, 8);
        Made.record(x, 3, 0, 1);
        Made.record(x, 4, 10, 10);
        due("0 is outside", x.bound(0), OUTSIDE);
        due("10 is outside", x.bound(10), OUTSIDE);
        due("the least is outside", x.bound(LEAST), OUTSIDE);
        due("the greatest is outside", x.bound(GREATEST), OUTSIDE);
        due("still at first", x.about(5), 3);
        due("9", x.bound(9), 3);
        int[] nine = {1, 1, 0, 0, 0};
        for (int p = 0; p < 5; p++) {
            due("barred by 9, person " + p, x.person(p, 2), nine[p]);
        }
        due("1", x.bound(1), 9);
        int[] one = {1, 1, 1, 1, 0};
        for (int p = 0; p < 5; p++) {
            due("barred by 1, person " + p, x.person(p, 2), one[p]);
        }
    }

    private static void experts() {
        CHECK.sentence("PERSONS may be EXPERTS.");
        LabelPeople x = Made.withWords("0", "1");
        due("none at first", x.decided(0), NONE);
        for (int p = 0; p < 8; p++) {
            due("was none, person " + p, x.expert(p, false), 0);
            due("all may, person " + p, x.expert(p, true), 1);
        }
        due("with experts", x.decided(0), 0);
        for (int p = 0; p < 8; p++) {
            due("was one, person " + p, x.expert(p, false), 1);
        }
        due("none at last", x.decided(0), NONE);
    }

    private static void trustAtFirst() {
        CHECK.sentence("TRUST of each is 10 at first.");
        LabelPeople x = Made.withRows(1);
        for (int p = 0; p < 8; p++) {
            due("trust of " + p, x.person(p, 0), 10);
            x.label(p, 0, 4);
            due("votes", x.votes(0, 4), 10 * (p + 1));
        }
    }

    private static void rules6() {
        CHECK.sentence("RULES 0, 1, .. (6 at most)");
        LabelPeople x = Made.withRows(1);
        for (int k = 0; k < 6; k++) {
            due("not yet", x.turn(k, true), UNKNOWN);
            due("rule " + k, x.rule(3, 0, 0, 1), k);
            due("counted", x.about(2), k + 1);
        }
        due("the 7th", x.rule(3, 0, 0, 1), ROOM);
        due("the 8th", x.rule(0, 0, 0, 1), ROOM);
        due("six", x.about(2), 6);
        due("six votes", x.votes(0, 0), 6);
        due("no rule 6", x.abstains(6), UNKNOWN);
    }

    private static void onAtFirst() {
        CHECK.sentence("ON (at first) or not");
        LabelPeople x = Made.withRows(1);
        for (int k = 0; k < 6; k++) {
            x.rule(3, 0, 0, 1);
            due("on at first, rule " + k, x.turn(k, true), 0);
        }
        for (int k = 0; k < 6; k++) {
            due("off, rule " + k, x.turn(k, false), 1);
            due("votes without it", x.votes(0, 0), 5 - k);
        }
        due("all off", x.decided(0), NONE);
    }

    private static void modulo5() {
        CHECK.sentence("say a number of a ROW, and that modulo 5 (0 .. 4) as LABEL");
        LabelPeople x = Made.withRows(1);
        x.rule(2, 0, 0, 0);
        int[] numbers = {LEAST, -6, -5, -4, -1, 0, 1, 4, 5, 6, GREATEST};
        int[] due = {2, 4, 0, 1, 4, 0, 1, 4, 0, 1, 2};
        for (int k = 0; k < numbers.length; k++) {
            x.table(0, numbers[k]);
            due(numbers[k] + " modulo 5", x.says(0, 0), due[k]);
            due("its vote", x.votes(0, due[k]), 1);
            due("it is decided so", x.decided(0), due[k]);
        }
    }

    /** Each pair is FEATURES 1 and 2 of a row. */
    private static LabelPeople withPairs(int[][] pairs) {
        LabelPeople x = new LabelPeople();
        for (int[] pair : pairs) {
            x.row(0, pair[0], pair[1], 0);
        }
        return x;
    }

    private static void quotients() {
        CHECK.sentence("0 FEATURE i / FEATURE j;");
        int[][] pairs = {{7, 2}, {-7, 2}, {7, -2}, {-7, -2}, {0, 5}, {1, 2}, {-1, 2}, {GREATEST, 1}, {GREATEST, -1},
            {LEAST, LEAST}, {GREATEST, LEAST}, {LEAST, GREATEST}, {LEAST, 1}};
        int[] due = {3, 2, 2, 3, 0, 0, 0, 2, 3, 1, 0, 4, 2};
        LabelPeople x = withPairs(pairs);
        x.rule(0, 1, 2, 0);
        x.rule(0, 1, 2, GREATEST);
        x.rule(0, 2, 2, 0);
        for (int row = 0; row < pairs.length; row++) {
            due(pairs[row][0] + " / " + pairs[row][1], x.says(0, row), due[row]);
            due("c is of no matter", x.says(1, row), due[row]);
            due("by itself", x.says(2, row), 1);
        }
    }

    private static void rests() {
        CHECK.sentence("1 FEATURE i % FEATURE j;");
        int[][] pairs = {{7, 2}, {-7, 2}, {7, -2}, {-7, -2}, {0, 5}, {1, 2}, {-1, 2}, {GREATEST, 1}, {GREATEST, -1},
            {LEAST, LEAST}, {GREATEST, LEAST}, {LEAST, GREATEST}, {LEAST, 1}, {8, 9}};
        int[] due = {1, 4, 1, 4, 0, 1, 4, 0, 0, 0, 2, 4, 0, 3};
        LabelPeople x = withPairs(pairs);
        x.rule(1, 1, 2, 0);
        x.rule(1, 1, 2, LEAST);
        x.rule(1, 2, 2, 0);
        for (int row = 0; row < pairs.length; row++) {
            due(pairs[row][0] + " % " + pairs[row][1], x.says(0, row), due[row]);
            due("c is of no matter", x.says(1, row), due[row]);
            due("by itself", x.says(2, row), 0);
        }
    }

    private static void places() {
        CHECK.sentence("2 what THE TABLE (8 ints, 0 at first) has at the place FEATURE i + c;");
        LabelPeople x = Made.withRows(8);
        int[] values = {3, 1, 4, 0, 2, 4, 1, 3};
        for (int place = 0; place < 8; place++) {
            x.table(place, values[place]);
        }
        x.rule(2, 0, 1, 0);
        x.rule(2, 0, 1, -3);
        x.rule(2, 0, 1, 5);
        x.rule(2, 1, 0, 7);
        for (int row = 0; row < 8; row++) {
            due("place " + row, x.says(0, row), values[row]);
            if (row >= 3) {
                due("place " + row + " - 3", x.says(1, row), values[row - 3]);
            }
            if (row <= 2) {
                due("place " + row + " + 5", x.says(2, row), values[row + 5]);
            }
            due("place 0 + 7", x.says(3, row), 3);
        }
        x.table(7, 2);
        due("it says what the table has now", x.says(3, 0), 2);
    }

    private static void tableAtFirst() {
        CHECK.sentence("(8 ints, 0 at first)");
        LabelPeople x = Made.withRows(8);
        x.rule(2, 0, 0, 0);
        for (int place = 0; place < 8; place++) {
            due("says place " + place, x.says(0, place), 0);
            due("place " + place, x.table(place, LEAST), 0);
            due("the least int", x.table(place, GREATEST), LEAST);
            due("the greatest int", x.table(place, -1), GREATEST);
            due("says place " + place, x.says(0, place), 4);
        }
        due("no place 8", x.table(8, 1), OUTSIDE);
        due("no place -1", x.table(-1, 1), OUTSIDE);
    }

    private static void belowC() {
        CHECK.sentence("3 0 if FEATURE i is below c, else 1.");
        int[] values = {LEAST, -3, -2, -1, 0, GREATEST};
        LabelPeople x = new LabelPeople();
        for (int v : values) {
            x.row(0, 0, 0, v);
        }
        int[] cs = {-2, LEAST, GREATEST, 0};
        int[][] due = {{0, 0, 1, 1, 1, 1}, {1, 1, 1, 1, 1, 1}, {0, 0, 0, 0, 0, 1}, {0, 0, 0, 0, 1, 1}};
        for (int rule = 0; rule < cs.length; rule++) {
            x.rule(3, 3, 0, cs[rule]);
            for (int row = 0; row < values.length; row++) {
                due(values[row] + " below " + cs[rule], x.says(rule, row), due[rule][row]);
            }
            due("it never abstains", x.abstains(rule), 0);
        }
    }

    private static void wrappingQuotients() {
        CHECK.sentence("(Ints, wrapping.)");
        LabelPeople x = new LabelPeople();
        x.row(LEAST, -1, 0, 0);
        x.rule(0, 0, 1, 0);
        x.rule(1, 0, 1, 0);
        due("the least by -1", x.says(0, 0), 2);
        due("its rest", x.says(1, 0), 0);
        due("it does not abstain", x.abstains(0), 0);
        due("nor does the other one", x.abstains(1), 0);
        due("its vote", x.votes(0, 2), 1);
    }

    private static void wrappingPlaces() {
        CHECK.sentence("(Ints, wrapping.)");
        int[][] sound = {{LEAST, LEAST, 0}, {LEAST + 3, LEAST + 4, 7}, {GREATEST, LEAST + 1, 0}, {GREATEST, LEAST + 8, 7},
            {LEAST, GREATEST - 3, NONE}, {LEAST, GREATEST, NONE}, {GREATEST, LEAST, NONE}, {GREATEST, GREATEST, NONE},
            {GREATEST, 1, NONE}, {LEAST, -1, NONE}, {GREATEST, LEAST + 9, NONE}, {LEAST + 4, LEAST + 4, NONE},
            {LEAST, LEAST + 7, 7}, {-1, 1, 0}, {-1, 8, 7}, {-1, 9, NONE}, {8, -1, 7}, {8, -9, NONE}};
        for (int[] s : sound) {
            LabelPeople x = new LabelPeople();
            x.row(s[0], 0, 0, 0);
            x.rule(2, 0, 0, s[1]);
            x.table(0, 1);
            x.table(7, 3);
            String sum = s[0] + " + " + s[1];
            due(sum + " abstains", x.abstains(0), s[2] == NONE ? 1 : 0);
            if (s[2] == NONE) {
                CHECK.dueThrow(sum, () -> x.says(0, 0), ArrayIndexOutOfBoundsException.class);
            } else {
                due(sum, x.says(0, 0), s[2] == 0 ? 1 : 3);
            }
        }
    }

    private static void divisionByZero() {
        CHECK.sentence("A RULE that cannot say it ABSTAINS: division by 0");
        int[] tops = {5, 0, LEAST, GREATEST, -1};
        LabelPeople x = new LabelPeople();
        for (int top : tops) {
            x.row(top, 0, 0, 0);
        }
        x.rule(0, 0, 1, 3);
        x.rule(1, 0, 1, 3);
        x.rule(0, 3, 3, 3);
        for (int rule = 0; rule < 3; rule++) {
            for (int row = 0; row < tops.length; row++) {
                int k = rule;
                int r = row;
                CHECK.dueThrow("by 0", () -> x.says(k, r), ArithmeticException.class);
                due("no vote", x.votes(row, 0), 0);
            }
            due("on all rows", x.abstains(rule), tops.length);
        }
        due("none decided", x.about(3), 0);
    }

    private static void noSuchPlace() {
        CHECK.sentence("A RULE that cannot say it ABSTAINS: division by 0, no such place.");
        int[] places = {LEAST, -2, -1, 8, 9, GREATEST, 0, 7};
        LabelPeople x = new LabelPeople();
        for (int place : places) {
            x.row(0, 0, place, 0);
        }
        x.rule(2, 2, 0, 0);
        for (int row = 0; row < 6; row++) {
            int r = row;
            CHECK.dueThrow("place " + places[row], () -> x.says(0, r), ArrayIndexOutOfBoundsException.class);
            due("no vote", x.votes(row, 0), 0);
            due("open", x.decided(row), NONE);
        }
        due("the first place", x.says(0, 6), 0);
        due("the last place", x.says(0, 7), 0);
        due("on six rows", x.abstains(0), 6);
    }

    private static void votesOfPersons() {
        CHECK.sentence("VOTES of a LABEL on a ROW: the TRUST of all PERSONS, not BARRED, that gave it this LABEL");
        LabelPeople x = Made.withWords("40", "40", "40", "4", "4", "4", "4", "4");
        due("of all eight", x.votes(0, 4), 80);
        due("of no other label", x.votes(0, 3), 0);
        due("of a row with fewer", x.votes(1, 0), 30);
        x.gold(1, 1);
        due("one wrong, bound 3", x.votes(0, 4), 80);
        x.bound(1);
        due("three are barred", x.votes(0, 4), 50);
        due("on the row that is gold, too", x.votes(1, 0), 0);
        x.gold(0, 0);
        due("all are barred", x.votes(0, 4), 0);
        x.gold(0, NONE);
        x.gold(1, NONE);
        due("none is barred any more", x.votes(0, 4), 80);
        due("of nobody", Made.withRows(1).votes(0, 0), 0);
    }

    private static void votesOfRules() {
        CHECK.sentence("and 1 for each RULE that is ON and says it.");
        LabelPeople x = Made.withWords("2", "2", "2", "2", "2", "2", "2", "2");
        x.row(8, 0, 0, 0);
        x.table(0, 2);
        for (int k = 0; k < 6; k++) {
            x.rule(2, 0, 0, 0);
            due("with rule " + k, x.votes(0, 2), 81 + k);
            due("one that abstains", x.votes(1, 2), 0);
        }
        x.turn(3, false);
        due("without rule 3", x.votes(0, 2), 85);
        x.table(0, 3);
        due("they say another label", x.votes(0, 2), 80);
        due("the other label", x.votes(0, 3), 5);
        x.learn(1);
        due("a rule's vote is not learned", x.votes(0, 3), 5);
    }

    private static void decidedByGold() {
        CHECK.sentence("DECIDED is a ROW: that is GOLD, so;");
        LabelPeople x = Made.withWords("0", "0", "0", "0", "0", "0", "0", "0");
        x.row(0, 0, 0, 0);
        x.expert(0, true);
        due("by votes", x.decided(0), 0);
        for (int label = 1; label < 5; label++) {
            x.gold(0, label);
            due("gold against all votes", x.decided(0), label);
        }
        due("no votes", x.decided(1), NONE);
        x.gold(1, 0);
        due("gold without votes", x.decided(1), 0);
        x.gold(0, NONE);
        x.gold(1, NONE);
        due("by votes again", x.decided(0), 0);
        due("open again", x.decided(1), NONE);
    }

    private static void decidedByVotes() {
        CHECK.sentence("on which just one LABEL has the most VOTES");
        String[] rows = {"0", "4", "00", "001", "011", "0012", "0112", "0122", "01233", "012344", "001234", "00112222",
            "00011112", "4.......", ".......3"};
        int[] due = {0, 4, 0, 0, 1, 0, 1, 2, 3, 4, 0, 2, 1, 4, 3};
        for (int k = 0; k < rows.length; k++) {
            due(rows[k], Made.withRow(rows[k]).decided(0), due[k]);
        }
        String[] open = {"01", "34", "04", "0011", "00112", "01122", "00122", "01234", "00001111", "44330012"};
        for (String row : open) {
            due(row, Made.withRow(row).decided(0), NONE);
        }
        LabelPeople x = Made.withRow("01");
        x.rule(3, 0, 0, 0);
        due("by one vote more", x.decided(0), 1);
        x.rule(3, 0, 0, 1);
        due("a vote against it", x.decided(0), NONE);
    }

    private static void decidedAboveZero() {
        CHECK.sentence("the most VOTES, above 0, so;");
        LabelPeople x = Made.withWords("11", "1.");
        x.row(0, 0, 0, 0);
        due("without any label", x.decided(2), NONE);
        x.bound(1);
        x.gold(0, 0);
        due("by a barred one alone", x.decided(1), NONE);
        x.expert(0, true);
        due("nor as an expert", x.decided(1), NONE);
        x.gold(0, NONE);
        due("barred no more", x.decided(1), 1);
        x.rule(3, 1, 0, 0);
        due("one vote", x.decided(2), 1);
        x.turn(0, false);
        due("none", x.decided(2), NONE);
        x.rule(0, 1, 1, 0);
        due("a rule that abstains", x.decided(2), NONE);
        x.rule(3, 1, 0, 1);
        due("one vote of label 0", x.decided(2), 0);
    }

    private static void decidedByExperts() {
        CHECK.sentence("else by the first EXPERT (by number), not BARRED, that labelled it, so;");
        LabelPeople x = Made.withRow("00114");
        due("no expert", x.decided(0), NONE);
        int[] order = {7, 5, 4, 3, 2, 1, 0};
        int[] due = {NONE, NONE, 4, 1, 1, 0, 0};
        for (int k = 0; k < order.length; k++) {
            x.expert(order[k], true);
            due("experts from " + order[k], x.decided(0), due[k]);
        }
        LabelPeople later = Made.withRow(".0.1");
        later.expert(0, true);
        due("this one did not label it", later.decided(0), NONE);
        later.expert(3, true);
        due("the first one that labelled it", later.decided(0), 1);
        LabelPeople votes = Made.withRow("300");
        votes.expert(0, true);
        due("votes go before", votes.decided(0), 0);
        votes.gold(0, 1);
        due("gold goes before", votes.decided(0), 1);
        LabelPeople last = Made.withRow("0......1");
        last.expert(7, true);
        due("the last person", last.decided(0), 1);
        last.expert(7, false);
        due("no expert any more", last.decided(0), NONE);
    }

    private static void decidedByExpertsNotBarred() {
        CHECK.sentence("the first EXPERT (by number), not BARRED");
        LabelPeople x = Made.withWords("42", "0.", "1.");
        x.expert(0, true);
        due("one of three", x.decided(0), 4);
        x.bound(1);
        x.gold(1, 3);
        due("it is barred", x.decided(0), NONE);
        x.expert(2, true);
        due("the next one", x.decided(0), 1);
        x.bound(2);
        due("barred no more", x.decided(0), 4);
    }

    private static void openElse() {
        CHECK.sentence("else it is OPEN.");
        LabelPeople x = Made.withRows(40);
        for (int p = 2; p < 8; p++) {
            x.expert(p, true);
        }
        for (int row = 0; row < 40; row++) {
            due("no label", x.decided(row), NONE);
            x.label(0, row, 3);
            due("one label", x.decided(row), 3);
            x.label(1, row, 4);
            due("two labels", x.decided(row), NONE);
        }
        due("all are open", x.about(3), 0);
        x.label(2, 39, 0);
        due("all but one", x.about(3), 1);
    }
}
