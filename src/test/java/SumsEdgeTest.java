/** The sentences on learning and agreeing ('Terms', sections 2 and 3) that name a boundary case. */
public final class SumsEdgeTest {
    private static final int NONE = -1;
    private static final Check CHECK = new Check();

    // From the second round on two trusts go to and fro, so that no round is without a change.
    private static final String[] RESTLESS = {"1.2.1102.21.", "20.2.00..01.", "1.0.02010.1.", "21.02.0.1020",
        "21100.0.0.20", "11.121020..1"};
    // The 17th round is the first without a change.
    private static final String[] SLOW = {"..0..20.2011", "..21000112.2", "112.001.121.", "02.22.221.22",
        "2220.220.00.", ".12.1210.121"};

    public static void main(String[] args) {
        learnUpTo();
        learnFromTen();
        learnCut();
        learnWithoutRows();
        learnDecidedAlone();
        learnByTrustAsItIs();
        learnAllAtOnce();
        learnLastRound();
        agreeOverBoth();
        agreeSum();
        agreeNothing();
        allOverTwoOrMore();
        allWhole();
        allBarred();
        allNothing();
        cutDown();
        CHECK.end();
    }

    private static void due(String call, long got, long want) {
        CHECK.due(call, got, want);
    }

    private static void dueTrust(String call, LabelPeople x, int... trust) {
        for (int p = 0; p < trust.length; p++) {
            due(call + ", trust of " + p, x.person(p, 0), trust[p]);
        }
    }

    private static void dueFraction(String call, LabelPeople x, long over, long under) {
        due(call + ", numerator", x.all(0), over);
        due(call + ", denominator", x.all(1), under);
    }

    private static void dueOfTwo(String call, LabelPeople x, long over, long under) {
        due(call + ", numerator", x.agree(0, 1, 0), over);
        due(call + ", denominator", x.agree(0, 1, 1), under);
        due(call + ", numerator the other way", x.agree(1, 0, 0), over);
        due(call + ", denominator the other way", x.agree(1, 0, 1), under);
    }

    private static void learnUpTo() {
        CHECK.sentence("TO LEARN, up to some ROUNDS:");
        LabelPeople x = Made.withWords(RESTLESS);
        due("1", x.learn(1), 1);
        dueTrust("1", x, 8, 5, 6, 7, 8, 7, 1, 1);
        due("2", x.learn(2), 2);
        dueTrust("2", x, 8, 4, 7, 6, 7, 7, 1, 1);
        due("3", x.learn(3), 3);
        dueTrust("3", x, 7, 4, 6, 6, 7, 7, 1, 1);
        due("19", x.learn(19), 19);
        dueTrust("19", x, 7, 4, 6, 6, 7, 7, 1, 1);
        due("20", x.learn(20), 20);
        dueTrust("20", x, 8, 4, 7, 6, 7, 7, 1, 1);
    }

    private static void learnFromTen() {
        CHECK.sentence("TRUST of all is 10; in each ROUND:");
        LabelPeople x = Made.withWords(RESTLESS);
        for (int k = 0; k < 3; k++) {
            due("some rounds", x.learn(20), 20);
            due("anew", x.learn(1), 1);
            dueTrust("anew", x, 8, 5, 6, 7, 8, 7, 1, 1);
        }
        LabelPeople y = Made.withRow("01");
        due("nothing to learn by", y.learn(20), 2);
        dueTrust("all at 1", y, 1, 1, 1, 1, 1, 1, 1, 1);
        for (int p = 1; p < 8; p++) {
            y.label(p, 0, 1);
        }
        y.row(0, 0, 0, 0);
        y.gold(1, 0);
        due("from 10, not from 1", y.learn(1), 1);
        dueTrust("from 10", y, 1, 10, 10, 10, 10, 10, 10, 10);
    }

    /** By rows that are gold: h of n are the known ones. */
    private static void learnCut() {
        CHECK.sentence("its TRUST becomes 1 and 9 h / n (cut;");
        int[][] cases = {{0, 1, 1}, {1, 1, 10}, {1, 2, 5}, {1, 3, 4}, {2, 3, 7}, {7, 8, 8}, {1, 9, 2}, {8, 9, 9},
            {1, 10, 1}, {9, 10, 9}, {0, 40, 1}, {4, 40, 1}, {5, 40, 2}, {39, 40, 9}, {40, 40, 10}};
        for (int[] c : cases) {
            LabelPeople x = Made.withRows(c[1]);
            Made.record(x, 3, c[0], c[1]);
            due("a round", x.learn(1), 1);
            due(c[0] + " of " + c[1], x.person(3, 0), c[2]);
            due("another person", x.person(4, 0), 1);
        }
    }

    private static void learnWithoutRows() {
        CHECK.sentence("without any n 1)");
        LabelPeople none = new LabelPeople();
        due("no rows", none.learn(1), 1);
        dueTrust("no rows", none, 1, 1, 1, 1, 1, 1, 1, 1);
        due("no rows", none.learn(2), 2);
        due("no rows", none.learn(20), 2);
        LabelPeople open = Made.withWords("01", "10");
        open.learn(1);
        dueTrust("open rows alone", open, 1, 1, 1, 1, 1, 1, 1, 1);
        LabelPeople gold = Made.withRows(40);
        for (int row = 0; row < 40; row++) {
            gold.gold(row, 0);
        }
        due("gold rows without labels", gold.learn(20), 2);
        dueTrust("gold rows without labels", gold, 1, 1, 1, 1, 1, 1, 1, 1);
    }

    private static void learnDecidedAlone() {
        CHECK.sentence("with n, how many ROWS that are DECIDED, by TRUST as it is, a PERSON labelled, and h");
        LabelPeople x = Made.withWords("000", "011", "02.");
        x.learn(1);
        dueTrust("row 0 alone", x, 10, 10, 10, 1);
        x.expert(2, true);
        x.learn(1);
        dueTrust("row 1 by an expert", x, 5, 5, 10, 1);
        x.gold(2, 1);
        x.learn(1);
        dueTrust("row 2 by gold", x, 4, 7, 10, 1);
        x.gold(1, 1);
        x.bound(1);
        due("two are barred", x.about(6), 2);
        x.learn(1);
        dueTrust("barred ones learn, too", x, 4, 10, 5, 1);
    }

    private static void learnByTrustAsItIs() {
        CHECK.sentence("DECIDED, by TRUST as it is,");
        LabelPeople x = Made.withWords("00000", "00101", "0011.");
        int[][] trust = {{7, 10, 7}, {6, 10, 7}, {6, 10, 7}};
        due("open by 10", x.decided(4), NONE);
        for (int n = 1; n <= 3; n++) {
            due("rounds", x.learn(n), n);
            dueTrust("round " + n, x, trust[n - 1]);
            due("decided by what was learned", x.decided(4), 1);
        }
    }

    private static void learnAllAtOnce() {
        CHECK.sentence("of all at once.");
        LabelPeople x = Made.withWords(SLOW);
        int[][] trust = {{4, 6, 7, 4, 10, 7, 1, 1}, {6, 4, 5, 2, 10, 7, 1, 1}, {7, 4, 6, 2, 8, 6, 1, 1},
            {6, 4, 7, 2, 7, 7, 1, 1}, {6, 4, 7, 2, 6, 7, 1, 1}, {6, 4, 8, 2, 6, 7, 1, 1}, {5, 4, 8, 2, 5, 7, 1, 1}};
        for (int n = 1; n <= trust.length; n++) {
            due("rounds", x.learn(n), n);
            dueTrust("round " + n, x, trust[n - 1]);
        }
    }

    private static void learnLastRound() {
        CHECK.sentence("A ROUND in which none changed is the last.");
        LabelPeople x = Made.withWords(SLOW);
        due("15", x.learn(15), 15);
        dueTrust("15", x, 2, 8, 10, 3, 2, 4, 1, 1);
        for (int n = 16; n <= 20; n++) {
            due("up to " + n, x.learn(n), Math.min(n, 17));
            dueTrust("up to " + n, x, 2, 9, 10, 3, 2, 4, 1, 1);
        }
        LabelPeople all = Made.withRow("00000000");
        for (int n = 1; n <= 20; n++) {
            due("none changes in the first", all.learn(n), 1);
        }
        dueTrust("none changes in the first", all, 10, 10, 10, 10, 10, 10, 10, 10);
        LabelPeople one = Made.withRow("0000000");
        due("the last person alone changes", one.learn(20), 2);
        dueTrust("the last person alone changes", one, 10, 10, 10, 10, 10, 10, 10, 1);
        LabelPeople first = Made.withRow(".0000000");
        due("the first person alone changes", first.learn(20), 2);
    }

    private static void agreeOverBoth() {
        CHECK.sentence("TO AGREE, of two PERSONS: over the ROWS that both labelled: n of them, a with one LABEL");
        LabelPeople x = Made.withWords("012..34", "0.2.133", "1111111");
        due("n", x.agree(0, 1, 2), 4);
        due("a", x.agree(0, 1, 3), 3);
        due("n the other way", x.agree(1, 0, 2), 4);
        due("n with one that labelled all", x.agree(2, 1, 2), 5);
        due("a with one that labelled all", x.agree(2, 1, 3), 1);
        due("n with one that labelled none", x.agree(0, 7, 2), 0);
        due("a with one that labelled none", x.agree(0, 7, 3), 0);
        due("n of two that labelled none", x.agree(6, 7, 2), 0);
        LabelPeople full = Made.withRows(40);
        for (int row = 0; row < 40; row++) {
            full.label(0, row, row % 5);
            full.label(1, row, row % 5);
        }
        due("n of all rows", full.agree(0, 1, 2), 40);
        due("a of all rows", full.agree(0, 1, 3), 40);
        dueOfTwo("all rows", full, 1, 1);
    }

    private static void agreeSum() {
        CHECK.sentence("s: the sum over LABELS of how often the one gave it there times how often the other one");
        dueOfTwo("s = 1 1", Made.withWords("01", "12"), -1, 3);
        dueOfTwo("s = 2 3 + 2 1", Made.withWords("0011", "0001"), 1, 2);
        dueOfTwo("rows of one alone are not there", Made.withWords("0011000", "0001..."), 1, 2);
        dueOfTwo("label 4 counts", Made.withWords("4433", "4443"), 1, 2);
        StringBuilder one = new StringBuilder();
        StringBuilder other = new StringBuilder();
        for (int row = 0; row < 40; row++) {
            one.append(row < 39 ? '0' : '1');
            other.append(row < 38 ? '0' : '1');
        }
        dueOfTwo("40 rows, s = 39 * 38 + 1 * 2", Made.withWords(one.toString(), other.toString()), 19, 29);
    }

    private static void agreeNothing() {
        CHECK.sentence("ArithmeticException (of 0 and 1): n n - s is 0.");
        String[][] cases = {{"", ""}, {"0", ""}, {"0.", ".0"}, {"0", "0"}, {"4", "4"}, {"222", "222"}, {"2221", "222."}};
        for (String[] c : cases) {
            LabelPeople x = Made.withWords(c);
            String call = c[0] + ", " + c[1];
            CHECK.dueThrow(call, () -> x.agree(0, 1, 0), ArithmeticException.class);
            CHECK.dueThrow(call, () -> x.agree(0, 1, 1), ArithmeticException.class);
            CHECK.dueThrow(call, () -> x.agree(1, 0, 0), ArithmeticException.class);
            int n = Math.min(c[0].replace(".", "").length(), c[1].replace(".", "").length());
            due(call + ", not of 2", x.agree(0, 1, 2), c[0].startsWith("0.") ? 0 : n);
            due(call + ", not of 3", x.agree(0, 1, 3), c[0].startsWith("0.") ? 0 : n);
        }
        dueOfTwo("one row, unlike", Made.withWords("0", "1"), 0, 1);
        dueOfTwo("each with one label", Made.withWords("00", "11"), 0, 1);
    }

    private static void allOverTwoOrMore() {
        CHECK.sentence("OF ALL: over the ROWS that two or more labelled");
        LabelPeople x = Made.withRows(40);
        due("no labels, r", x.all(2), 0);
        due("no labels, C", x.all(3), 0);
        for (int row = 0; row < 40; row++) {
            x.label(row % 8, row, 3);
        }
        due("one each, r", x.all(2), 0);
        due("one each, C", x.all(3), 0);
        x.label(1, 0, 4);
        due("two on one row, r", x.all(2), 1);
        due("two on one row, C", x.all(3), 2);
        dueFraction("two unlike", x, -1, 1);
        for (int p = 2; p < 8; p++) {
            x.label(p, 0, 3);
            due("more, r", x.all(2), 1);
            due("more, C", x.all(3), p + 1);
        }
        dueFraction("seven and one: (630 64 - 50 840) / (840 14)", x, -1, 7);
    }

    /** Rows of 2 .. 8 labellings, one of each unlike: A = 2994, C = 35, S = 28 28 + 7 7. */
    private static void allWhole() {
        CHECK.sentence("840 times the pairs of their labellings that are alike, by all their pairs (that is whole)");
        String[] words = {"1111111", "0000000", ".000000", "..00000", "...0000", "....000", ".....00", "......0"};
        LabelPeople x = Made.withWords(words);
        due("r", x.all(2), 7);
        due("C", x.all(3), 35);
        dueFraction("all sizes", x, -837, 1568);
        LabelPeople labels = Made.withWords("01234", "01234", "01234");
        dueFraction("each label", labels, 1, 1);
        LabelPeople most = Made.withRows(40);
        for (int k = 0; k < 320; k++) {
            most.label(k % 8, k / 8, k % 8 < 4 ? 0 : 1);
        }
        due("the most rows", most.all(2), 40);
        due("the most labellings", most.all(3), 320);
        dueFraction("halves: A = 40 360, S = 2 160 160", most, -1, 7);
    }

    private static void allBarred() {
        CHECK.sentence("(BARRED ones, too)");
        LabelPeople x = Made.withWords("001", "011");
        dueFraction("none barred", x, 1, 3);
        x.bound(1);
        x.gold(0, 1);
        x.gold(1, 4);
        due("both are barred", x.about(6), 2);
        due("r", x.all(2), 3);
        due("C", x.all(3), 6);
        dueFraction("both barred", x, 1, 3);
    }

    private static void allNothing() {
        CHECK.sentence("ArithmeticException (of 0 and 1): the denominator is 0.");
        String[][] cases = {{""}, {"0123"}, {"01.", "..2"}, {"0", "0"}, {"44", "44"}, {"441", "44."}, {"3", "3", "3"}};
        int[] rows = {0, 0, 0, 1, 2, 2, 1};
        int[] labellings = {0, 0, 0, 2, 4, 4, 3};
        for (int k = 0; k < cases.length; k++) {
            LabelPeople x = Made.withWords(cases[k]);
            String call = String.join(", ", cases[k]);
            CHECK.dueThrow(call, () -> x.all(0), ArithmeticException.class);
            CHECK.dueThrow(call, () -> x.all(1), ArithmeticException.class);
            due(call + ", not of 2", x.all(2), rows[k]);
            due(call + ", not of 3", x.all(3), labellings[k]);
        }
    }

    private static void cutDown() {
        CHECK.sentence("Both as fractions cut down, with a denominator above 0.");
        dueOfTwo("0 / 4", Made.withWords("00", "11"), 0, 1);
        dueOfTwo("-2 / 2", Made.withWords("01", "10"), -1, 1);
        dueOfTwo("-3 / 6", Made.withWords("012", "120"), -1, 2);
        dueOfTwo("2 / 5", Made.withWords("001", "011"), 2, 5);
        dueOfTwo("20 / 20", Made.withWords("01234", "01234"), 1, 1);
        dueFraction("0 / 107520", Made.withWords("0011", "0101"), 0, 1);
        dueFraction("-13440 / 13440", Made.withWords("01", "10"), -1, 1);
        dueFraction("-3360 / 10080", Made.withWords("00", "01"), -1, 3);
        dueFraction("15120 / 45360", Made.withWords("001", "011"), 1, 3);
    }
}
