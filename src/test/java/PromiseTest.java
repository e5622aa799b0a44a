/** Each promise of the document, by ordinary inputs, the edges that it names, and wrong inputs. */
public final class PromiseTest {
    private static final int NONE = -1, UNKNOWN = -101, OUTSIDE = -102, ROOM = -104;
    private static final int LEAST = Integer.MIN_VALUE, GREATEST = Integer.MAX_VALUE;
    private static final Check CHECK = new Check();

    public static void main(String[] args) {
        promise1New();
        promise2Row();
        promise3Label();
        promise4Said();
        promise5Gold();
        promise6Bound();
        promise7Expert();
        promise8Person();
        promise9Rule();
        promise10Turn();
        promise11Table();
        promise12Says();
        promise12Features();
        promise12Abstaining();
        promise13Abstains();
        promise14Votes();
        promise15Decided();
        promise15Experts();
        promise16Learn();
        promise16Rounds();
        promise17Agree();
        promise17Extremes();
        promise18All();
        promise18Pairs();
        promise19Next();
        promise19Lead();
        promise20About();
        promise20Disputes();
        fullRoom();
        CHECK.end();
    }

    private static void due(String call, long got, long want) {
        CHECK.due(call, got, want);
    }

    private static void promise1New() {
        LabelPeople x = new LabelPeople();
        int[] start = {0, 0, 0, 0, 0, 3, 0, 0};
        for (int what = 0; what < start.length; what++) {
            due("1 about(" + what + ")", x.about(what), start[what]);
        }
        for (int person = 0; person < 8; person++) {
            due("1 trust", x.person(person, 0), 10);
            due("1 wrong", x.person(person, 1), 0);
            due("1 barred", x.person(person, 2), 0);
            due("1 labelled", x.person(person, 3), 0);
            due("1 no expert", x.expert(person, false), 0);
        }
        for (int place = 0; place < 8; place++) {
            due("1 the table", x.table(place, 0), 0);
        }
        due("1 no row", x.decided(0), UNKNOWN);
        due("1 no rule", x.turn(0, true), UNKNOWN);
    }

    private static void promise2Row() {
        LabelPeople x = new LabelPeople();
        for (int k = 0; k < 40; k++) {
            due("2 row", x.row(LEAST, GREATEST, k, -k), k);
            due("2 counted", x.about(0), k + 1);
        }
        due("2 a row too many", x.row(0, 0, 0, 0), ROOM);
        due("2 nothing changed", x.about(0), 40);
        due("2 the last one", x.decided(39), NONE);
        due("2 none behind it", x.decided(40), UNKNOWN);
        due("2 again", x.row(1, 1, 1, 1), ROOM);
    }

    private static void promise3Label() {
        LabelPeople x = Made.withRows(2);
        due("3 label", x.label(0, 0, 4), 1);
        due("3 again", x.label(0, 0, 4), 0);
        due("3 another one", x.label(0, 0, 1), 0);
        due("3 the first counts", x.said(0, 0), 4);
        due("3 the last person", x.label(7, 1, 0), 1);
        due("3 no person", x.label(8, 0, 0), UNKNOWN);
        due("3 no person", x.label(-1, 0, 0), UNKNOWN);
        due("3 no row", x.label(0, 2, 0), UNKNOWN);
        due("3 no row", x.label(0, -1, 0), UNKNOWN);
        due("3 no label", x.label(1, 0, 5), OUTSIDE);
        due("3 no label", x.label(1, 0, NONE), OUTSIDE);
        due("3 refused before what it had", x.label(0, 0, 5), OUTSIDE);
        due("3 unknown before outside", x.label(8, 0, 5), UNKNOWN);
        due("3 unknown before outside", x.label(0, 2, 5), UNKNOWN);
        due("3 refused changes nothing", x.said(1, 0), NONE);
        due("3 counted", x.about(1), 2);
        x.bound(1);
        x.gold(0, 0);
        due("3 barred", x.person(0, 2), 1);
        due("3 a barred one may label", x.label(0, 1, 0), 1);
    }

    private static void promise4Said() {
        LabelPeople x = Made.withWords("01", ".2");
        due("4 said", x.said(0, 0), 0);
        due("4 said", x.said(0, 1), 1);
        due("4 said", x.said(1, 1), 2);
        due("4 nothing", x.said(1, 0), NONE);
        due("4 nothing", x.said(7, 1), NONE);
        int[][] wrong = {{-1, 0}, {8, 0}, {0, -1}, {0, 2}, {LEAST, 0}, {0, GREATEST}};
        for (int[] w : wrong) {
            due("4 said(" + w[0] + ", " + w[1] + ")", x.said(w[0], w[1]), UNKNOWN);
        }
    }

    private static void promise5Gold() {
        LabelPeople x = Made.withWords("0", "1");
        due("5 gold", x.gold(0, 1), NONE);
        due("5 decided", x.decided(0), 1);
        due("5 wrong", x.person(0, 1), 1);
        due("5 right", x.person(1, 1), 0);
        due("5 another label", x.gold(0, 4), 1);
        due("5 wrong now", x.person(1, 1), 1);
        due("5 no label", x.gold(0, 5), OUTSIDE);
        due("5 no label", x.gold(0, -2), OUTSIDE);
        due("5 no row", x.gold(1, 0), UNKNOWN);
        due("5 no row", x.gold(-1, 0), UNKNOWN);
        due("5 unknown before outside", x.gold(1, 5), UNKNOWN);
        due("5 not any more", x.gold(0, NONE), 4);
        due("5 nor before", x.gold(0, NONE), NONE);
        due("5 none is wrong", x.person(0, 1), 0);
        due("5 open", x.decided(0), NONE);
    }

    private static void promise6Bound() {
        LabelPeople x = Made.withWords("000000000");
        due("6 at first", x.bound(1), 3);
        due("6 the highest", x.bound(9), 1);
        due("6 outside", x.bound(0), OUTSIDE);
        due("6 outside", x.bound(10), OUTSIDE);
        due("6 outside", x.bound(LEAST), OUTSIDE);
        due("6 unchanged", x.about(5), 9);
        for (int row = 0; row < 9; row++) {
            due("6 not barred yet", x.person(0, 2), 0);
            x.gold(row, 1);
        }
        due("6 barred", x.person(0, 2), 1);
        due("6 free again", x.gold(3, 0), 1);
        due("6 not barred", x.person(0, 2), 0);
        x.bound(8);
        due("6 barred by a lower bound", x.person(0, 2), 1);
    }

    private static void promise7Expert() {
        LabelPeople x = new LabelPeople();
        due("7 new", x.expert(7, true), 1);
        due("7 not new", x.expert(7, true), 0);
        due("7 another one", x.expert(0, true), 1);
        due("7 no more", x.expert(7, false), 1);
        due("7 nor before", x.expert(7, false), 0);
        due("7 nobody", x.expert(8, true), UNKNOWN);
        due("7 nobody", x.expert(-1, false), UNKNOWN);
    }

    private static void promise8Person() {
        LabelPeople x = Made.withWords("0123", "0.2.");
        x.gold(0, 1);
        x.gold(1, 1);
        x.gold(2, 0);
        int[][] want = {{10, 2, 0, 4}, {10, 2, 0, 2}, {10, 0, 0, 0}};
        for (int person = 0; person < want.length; person++) {
            for (int what = 0; what < 4; what++) {
                due("8 person(" + person + ", " + what + ")", x.person(person, what), want[person][what]);
            }
        }
        x.bound(2);
        due("8 barred", x.person(0, 2), 1);
        due("8 labelled later, wrongly", x.label(5, 2, 4), 1);
        due("8 wrong at once", x.person(5, 1), 1);
        due("8 outside", x.person(0, 4), OUTSIDE);
        due("8 outside", x.person(0, -1), OUTSIDE);
        due("8 unknown", x.person(8, 0), UNKNOWN);
        due("8 unknown before outside", x.person(-1, 4), UNKNOWN);
    }

    private static void promise9Rule() {
        LabelPeople x = new LabelPeople();
        int[][] wrong = {{-1, 0, 0}, {4, 0, 0}, {0, -1, 0}, {0, 4, 0}, {0, 0, -1}, {0, 0, 4}, {2, 0, 4}, {3, 0, -1}};
        for (int[] w : wrong) {
            due("9 outside", x.rule(w[0], w[1], w[2], 0), OUTSIDE);
        }
        due("9 nothing changed", x.about(2), 0);
        for (int k = 0; k < 6; k++) {
            due("9 rule", x.rule(k % 4, 3, 3, k % 2 == 0 ? LEAST : GREATEST), k);
        }
        due("9 a rule too many", x.rule(0, 0, 0, 0), ROOM);
        due("9 outside before room", x.rule(4, 0, 0, 0), OUTSIDE);
        due("9 all six", x.about(2), 6);
        due("9 on at first", x.turn(5, true), 0);
    }

    private static void promise10Turn() {
        LabelPeople x = Made.withRows(1);
        x.rule(3, 0, 0, 5);
        due("10 it votes", x.votes(0, 0), 1);
        due("10 off", x.turn(0, false), 1);
        due("10 no vote", x.votes(0, 0), 0);
        due("10 off already", x.turn(0, false), 0);
        due("10 on", x.turn(0, true), 1);
        due("10 on already", x.turn(0, true), 0);
        due("10 it votes again", x.votes(0, 0), 1);
        due("10 no such rule", x.turn(1, true), UNKNOWN);
        due("10 no such rule", x.turn(-1, false), UNKNOWN);
    }

    private static void promise11Table() {
        LabelPeople x = new LabelPeople();
        for (int place = 0; place < 8; place++) {
            due("11 0 at first", x.table(place, place + 100), 0);
        }
        for (int place = 0; place < 8; place++) {
            due("11 what it had", x.table(place, LEAST), place + 100);
        }
        due("11 outside", x.table(8, 1), OUTSIDE);
        due("11 outside", x.table(-1, 1), OUTSIDE);
        due("11 the last place", x.table(7, 0), LEAST);
    }

    private static void promise12Says() {
        LabelPeople x = new LabelPeople();
        x.row(-7, 2, LEAST, -1);
        x.row(GREATEST, LEAST, 9, -4);
        x.rule(0, 0, 1, 0);
        x.rule(1, 0, 1, 0);
        x.rule(0, 2, 3, 0);
        x.rule(1, 2, 3, 0);
        x.rule(3, 0, 0, -7);
        x.rule(3, 0, 0, -6);
        int[] first = {2, 4, 2, 0, 1, 0};
        int[] second = {0, 2, 3, 1, 1, 1};
        for (int rule = 0; rule < 6; rule++) {
            due("12 says(" + rule + ", 0)", x.says(rule, 0), first[rule]);
            due("12 says(" + rule + ", 1)", x.says(rule, 1), second[rule]);
        }
        x.turn(0, false);
        due("12 on or not", x.says(0, 0), 2);
        int[][] wrong = {{6, 0}, {-1, 0}, {0, 2}, {0, -1}, {LEAST, GREATEST}};
        for (int[] w : wrong) {
            CHECK.dueThrow("12 no such rule or row", () -> x.says(w[0], w[1]), IllegalArgumentException.class);
        }
    }

    private static void promise12Features() {
        LabelPeople x = new LabelPeople();
        x.row(3, 1, 9, -2);
        x.rule(3, 1, 0, 2);
        x.rule(3, 0, 1, 2);
        x.rule(1, 2, 1, 0);
        x.rule(2, 1, 3, 1);
        x.rule(0, 2, 3, 0);
        x.rule(1, 2, 3, 0);
        x.table(2, 3);
        int[] want = {0, 1, 0, 3, 1, 1};
        for (int rule = 0; rule < 6; rule++) {
            due("12 features of says(" + rule + ", 0)", x.says(rule, 0), want[rule]);
        }
    }

    private static void promise12Abstaining() {
        LabelPeople x = new LabelPeople();
        x.row(0, 7, 8, GREATEST);
        x.rule(0, 1, 0, 0);
        x.rule(1, 1, 0, 0);
        x.rule(2, 1, 0, 0);
        x.rule(2, 2, 0, 0);
        x.rule(2, 0, 0, -1);
        x.rule(2, 3, 0, LEAST);
        x.table(7, -6);
        CHECK.dueThrow("12 a quotient", () -> x.says(0, 0), ArithmeticException.class);
        CHECK.dueThrow("12 a rest", () -> x.says(1, 0), ArithmeticException.class);
        due("12 the last place", x.says(2, 0), 4);
        CHECK.dueThrow("12 behind it", () -> x.says(3, 0), ArrayIndexOutOfBoundsException.class);
        CHECK.dueThrow("12 before the first", () -> x.says(4, 0), ArrayIndexOutOfBoundsException.class);
        CHECK.dueThrow("12 far before", () -> x.says(5, 0), ArrayIndexOutOfBoundsException.class);
        LabelPeople y = new LabelPeople();
        y.row(GREATEST, 0, 0, 0);
        y.rule(2, 0, 0, LEAST);
        y.rule(2, 0, 0, -GREATEST);
        y.rule(2, 1, 0, 3);
        y.rule(2, 0, 0, GREATEST);
        y.table(0, 3);
        y.table(3, 7);
        due("12 a place by a sum", y.says(1, 0), 3);
        due("12 a place by c", y.says(2, 0), 2);
        CHECK.dueThrow("12 -1", () -> y.says(0, 0), ArrayIndexOutOfBoundsException.class);
        CHECK.dueThrow("12 -2 by wrapping", () -> y.says(3, 0), ArrayIndexOutOfBoundsException.class);
        LabelPeople z = new LabelPeople();
        z.row(LEAST, 0, 0, 0);
        z.rule(2, 0, 0, LEAST);
        z.table(0, 9);
        due("12 place 0 by wrapping", z.says(0, 0), 4);
    }

    private static void promise13Abstains() {
        LabelPeople x = Made.withRows(12);
        x.rule(0, 1, 0, 0);
        x.rule(0, 0, 1, 0);
        x.rule(2, 0, 0, 0);
        x.rule(2, 0, 0, -2);
        x.rule(3, 0, 0, 5);
        int[] want = {1, 12, 4, 4, 0};
        for (int rule = 0; rule < want.length; rule++) {
            due("13 abstains(" + rule + ")", x.abstains(rule), want[rule]);
            x.turn(rule, false);
            due("13 on or not", x.abstains(rule), want[rule]);
        }
        due("13 no such rule", x.abstains(5), UNKNOWN);
        due("13 no such rule", x.abstains(-1), UNKNOWN);
    }

    private static void promise14Votes() {
        LabelPeople x = Made.withWords("0", "0", "3");
        x.rule(3, 0, 0, 9);
        x.rule(3, 0, 0, 0);
        x.rule(0, 0, 1, 0);
        int[] want = {21, 1, 0, 10, 0};
        for (int label = 0; label < 5; label++) {
            due("14 votes(0, " + label + ")", x.votes(0, label), want[label]);
        }
        due("14 no row", x.votes(1, 0), UNKNOWN);
        due("14 no row", x.votes(-1, 5), UNKNOWN);
        due("14 no label", x.votes(0, 5), OUTSIDE);
        due("14 no label", x.votes(0, NONE), OUTSIDE);
        x.bound(1);
        x.gold(0, 0);
        due("14 a barred one has none", x.votes(0, 3), 0);
        due("14 of a row that is gold", x.votes(0, 0), 21);
        x.learn(1);
        due("14 by the trust learned", x.votes(0, 0), 21);
        x.gold(0, 3);
        x.learn(1);
        x.gold(0, NONE);
        due("14 by the trust learned", x.votes(0, 0), 3);
        due("14 by the trust learned", x.votes(0, 3), 10);
    }

    private static void promise15Decided() {
        LabelPeople x = Made.withWords("0012.", "0121.", "1123.");
        int[] want = {0, 1, 2, NONE, NONE};
        for (int row = 0; row < want.length; row++) {
            due("15 decided(" + row + ")", x.decided(row), want[row]);
        }
        x.gold(0, 4);
        x.gold(4, 3);
        due("15 gold before votes", x.decided(0), 4);
        due("15 gold without votes", x.decided(4), 3);
        due("15 no row", x.decided(5), UNKNOWN);
        due("15 no row", x.decided(-1), UNKNOWN);
        x.rule(3, 0, 0, 9);
        due("15 a rule says another label", x.decided(3), NONE);
        x.rule(3, 0, 0, 0);
        due("15 a rule breaks the tie", x.decided(3), 1);
        x.gold(4, NONE);
        due("15 rules alone, alike often", x.decided(4), NONE);
        x.turn(0, false);
        due("15 a rule alone", x.decided(4), 1);
    }

    private static void promise15Experts() {
        LabelPeople x = Made.withWords("01.", "10.", "..0", "...4");
        due("15 open", x.decided(0), NONE);
        x.expert(7, true);
        due("15 this one did not label it", x.decided(0), NONE);
        x.expert(1, true);
        due("15 an expert", x.decided(0), 1);
        x.expert(0, true);
        due("15 the first one", x.decided(0), 0);
        x.expert(3, true);
        x.bound(1);
        x.gold(3, 0);
        due("15 barred is just the third", x.about(6), 1);
        x.gold(3, NONE);
        x.expert(2, false);
        due("15 votes go before experts", x.decided(2), 0);
        x.gold(1, 0);
        due("15 a barred expert decides nothing", x.decided(0), 1);
        x.gold(1, 3);
        due("15 nor do two", x.decided(0), NONE);
        x.gold(1, NONE);
        x.expert(0, false);
        due("15 no expert any more", x.decided(0), 1);
    }

    private static void promise16Learn() {
        LabelPeople x = Made.withWords("0000", "0001", "0012", "1..3");
        due("16 outside", x.learn(0), OUTSIDE);
        due("16 outside", x.learn(21), OUTSIDE);
        due("16 outside", x.learn(-1), OUTSIDE);
        due("16 unchanged", x.person(0, 0), 10);
        due("16 a round", x.learn(1), 1);
        int[] want = {10, 10, 7, 1, 1, 1, 1, 1};
        for (int person = 0; person < 8; person++) {
            due("16 trust of " + person, x.person(person, 0), want[person]);
        }
        due("16 refused", x.learn(21), OUTSIDE);
        due("16 a refusal keeps trust", x.person(2, 0), 7);
        due("16 two", x.learn(2), 2);
        due("16 up to 20", x.learn(20), 2);
        due("16 up to 3", x.learn(3), 2);
        x.gold(3, 3);
        due("16 with gold", x.learn(20), 2);
        int[] gilt = {7, 7, 5, 5};
        for (int person = 0; person < 4; person++) {
            due("16 trust of " + person + " with gold", x.person(person, 0), gilt[person]);
        }
        x.bound(1);
        due("16 barred ones learn, too", x.learn(20), 2);
        x.gold(0, 1);
        x.gold(1, 0);
        x.gold(2, 0);
        x.learn(1);
        int[] golden = {5, 5, 3, 10};
        for (int person = 0; person < 4; person++) {
            due("16 trust of " + person + " by gold", x.person(person, 0), golden[person]);
        }
    }

    /** Row 4 is open at first, and decided once the trust of its two persons has become unlike. */
    private static void promise16Rounds() {
        LabelPeople x = Made.withWords("00000", "00101", "0011.");
        int[][] trust = {{7, 10, 7}, {6, 10, 7}, {6, 10, 7}};
        for (int n = 1; n <= 3; n++) {
            due("16 learn(" + n + ")", x.learn(n), n);
            for (int person = 0; person < 3; person++) {
                due("16 trust of " + person + " by " + n, x.person(person, 0), trust[n - 1][person]);
            }
        }
        due("16 the round without change is the last", x.learn(20), 3);
        due("16 trust starts at 10 each time", x.learn(1), 1);
        due("16 as in the first round", x.person(0, 0), 7);
        LabelPeople y = Made.withWords("0", "1");
        due("16 nothing is decided", y.learn(20), 2);
        due("16 without any n", y.person(0, 0), 1);
        y.expert(1, true);
        due("16 decided by an expert", y.learn(20), 2);
        due("16 the other one", y.person(0, 0), 1);
        due("16 the expert", y.person(1, 0), 10);
    }

    private static void promise17Agree() {
        LabelPeople x = Made.withWords("00112.", "01112.", "...003");
        long[] want = {11, 16, 5, 4};
        for (int what = 0; what < 4; what++) {
            due("17 agree(0, 1, " + what + ")", x.agree(0, 1, what), want[what]);
            due("17 agree(1, 0, " + what + ")", x.agree(1, 0, what), want[what]);
        }
        due("17 rows of both alone", x.agree(0, 2, 2), 2);
        due("17 none alike", x.agree(0, 2, 3), 0);
        due("17 no more than chance", x.agree(0, 2, 0), 0);
        due("17 0 cut down", x.agree(0, 2, 1), 1);
        due("17 no row", x.agree(0, 7, 2), 0);
        due("17 no row", x.agree(0, 7, 3), 0);
        CHECK.dueThrow("17 no row", () -> x.agree(0, 7, 0), ArithmeticException.class);
        CHECK.dueThrow("17 no row", () -> x.agree(0, 7, 1), ArithmeticException.class);
        int[][] wrong = {{0, 0, 2}, {0, 8, 2}, {8, 0, 2}, {-1, 0, 2}, {0, -1, 0}, {0, 1, 4}, {0, 1, -1}, {7, 7, 0}};
        for (int[] w : wrong) {
            CHECK.dueThrow("17 wrong", () -> x.agree(w[0], w[1], w[2]), IllegalArgumentException.class);
        }
        CHECK.dueThrow("17 what before 0", () -> x.agree(0, 7, 4), IllegalArgumentException.class);
    }

    private static void promise17Extremes() {
        LabelPeople alike = Made.withWords("0000", "0000");
        CHECK.dueThrow("17 one label alone", () -> alike.agree(0, 1, 0), ArithmeticException.class);
        CHECK.dueThrow("17 one label alone", () -> alike.agree(0, 1, 1), ArithmeticException.class);
        due("17 its rows", alike.agree(0, 1, 2), 4);
        due("17 its rows alike", alike.agree(0, 1, 3), 4);
        LabelPeople full = Made.withWords("01234", "01234");
        due("17 in full", full.agree(0, 1, 0), 1);
        due("17 in full", full.agree(0, 1, 1), 1);
        LabelPeople against = Made.withWords("0101", "1010");
        due("17 against", against.agree(0, 1, 0), -1);
        due("17 against", against.agree(0, 1, 1), 1);
        LabelPeople below = Made.withWords("001", "011");
        below.bound(1);
        below.gold(0, 4);
        due("17 barred ones, too", below.agree(0, 1, 0), 2);
        due("17 cut down", below.agree(0, 1, 1), 5);
        LabelPeople half = Made.withWords("012", "120");
        due("17 under chance", half.agree(0, 1, 0), -1);
        due("17 cut down, under chance", half.agree(0, 1, 1), 2);
    }

    private static void promise18All() {
        LabelPeople x = Made.withWords("012", "01.");
        due("18 in full", x.all(0), 1);
        due("18 in full", x.all(1), 1);
        due("18 rows", x.all(2), 2);
        due("18 labellings", x.all(3), 4);
        CHECK.dueThrow("18 what", () -> x.all(4), IllegalArgumentException.class);
        CHECK.dueThrow("18 what", () -> x.all(-1), IllegalArgumentException.class);
        LabelPeople none = Made.withWords("012");
        CHECK.dueThrow("18 no row", () -> none.all(0), ArithmeticException.class);
        CHECK.dueThrow("18 no row", () -> none.all(1), ArithmeticException.class);
        CHECK.dueThrow("18 what before 0", () -> none.all(4), IllegalArgumentException.class);
        due("18 no rows", none.all(2), 0);
        due("18 no labellings", none.all(3), 0);
        LabelPeople one = Made.withWords("001", "00.");
        CHECK.dueThrow("18 one label alone", () -> one.all(0), ArithmeticException.class);
        CHECK.dueThrow("18 one label alone", () -> one.all(1), ArithmeticException.class);
        due("18 its labellings", one.all(3), 4);
        LabelPeople against = Made.withWords("01", "10");
        due("18 against", against.all(0), -1);
        due("18 against", against.all(1), 1);
        against.bound(1);
        against.gold(0, 4);
        due("18 barred ones, too", against.all(3), 4);
    }

    /** A row of eight and one of three: A = 360 + 280, C = 11, S = 25 + 36, so -25040 / 100800. */
    private static void promise18Pairs() {
        LabelPeople x = Made.withWords("00", "01", "01", "0", "1", "1", "1", "1");
        due("18 rows", x.all(2), 2);
        due("18 labellings", x.all(3), 11);
        due("18 the numerator", x.all(0), -313);
        due("18 the denominator", x.all(1), 1260);
        LabelPeople full = new LabelPeople();
        for (int row = 0; row < 40; row++) {
            full.row(0, 0, 0, 0);
            for (int person = 0; person < 8; person++) {
                full.label(person, row, row % 5);
            }
        }
        due("18 all in full", full.all(0), 1);
        due("18 all in full", full.all(1), 1);
        due("18 all labellings", full.all(3), 320);
    }

    private static void promise19Next() {
        LabelPeople x = new LabelPeople();
        due("19 no row", x.next(0), NONE);
        due("19 nobody", x.next(8), UNKNOWN);
        due("19 nobody", x.next(-1), UNKNOWN);
        x.row(0, 0, 0, 0);
        x.row(0, 0, 0, 0);
        x.row(0, 0, 0, 0);
        due("19 the first of equals", x.next(0), 0);
        x.label(0, 0, 0);
        due("19 not what it labelled", x.next(0), 1);
        due("19 the least lead", x.next(1), 1);
        x.gold(1, 0);
        due("19 not gold", x.next(1), 2);
        x.label(1, 0, 1);
        due("19 the fewest labellings", x.next(2), 2);
        x.label(3, 2, 2);
        due("19 a tie before a lead", x.next(2), 0);
        x.bound(1);
        x.label(2, 1, 4);
        due("19 barred", x.next(2), NONE);
        x.gold(1, 4);
        due("19 not barred", x.next(2), 0);
        x.label(2, 0, 0);
        due("19 one left", x.next(2), 2);
        x.label(2, 2, 0);
        due("19 none left", x.next(2), NONE);
    }

    private static void promise19Lead() {
        LabelPeople x = Made.withWords("0.000", "0.111", "1.222", "..3.3");
        int[] order = {1, 3, 2, 4, 0};
        for (int row : order) {
            due("19 in its order", x.next(7), row);
            x.gold(row, row == 0 ? 0 : NONE);
            x.label(7, row, 4);
            x.gold(row, 4);
        }
        due("19 all done", x.next(7), NONE);
        LabelPeople y = Made.withWords("0", "1");
        y.row(0, 0, 0, 0);
        y.bound(1);
        y.label(2, 1, 0);
        y.row(0, 0, 0, 0);
        y.label(2, 2, 0);
        y.gold(2, 1);
        due("19 labellings of barred ones count", y.next(7), 1);
        y.label(3, 1, 2);
        due("19 a lead by one trust", y.next(7), 0);
        y.rule(3, 0, 0, 9);
        due("19 rules lead, too", y.next(7), 0);
        LabelPeople z = new LabelPeople();
        z.row(0, 0, 0, 0);
        z.row(1, 0, 1, 0);
        z.row(0, 0, 0, 0);
        z.rule(0, 1, 0, 0);
        z.rule(0, 2, 0, 0);
        z.bound(1);
        z.gold(2, 0);
        z.label(0, 0, 0);
        z.label(0, 2, 1);
        due("19 no votes and a tie are alike", z.next(7), 1);
    }

    private static void promise20About() {
        LabelPeople x = Made.withWords("0011.", "00.2.", "0....");
        x.rule(0, 0, 1, 0);
        x.rule(0, 0, 1, 0);
        x.gold(0, 1);
        x.gold(4, 2);
        x.bound(1);
        int[] want = {5, 8, 2, 2, 2, 1, 3, 0};
        for (int what = 0; what < want.length; what++) {
            due("20 about(" + what + ")", x.about(what), want[what]);
        }
        x.bound(2);
        due("20 none barred", x.about(6), 0);
        due("20 decided", x.about(3), 4);
        x.expert(1, true);
        due("20 decided by an expert", x.about(3), 5);
        due("20 outside", x.about(8), OUTSIDE);
        due("20 outside", x.about(-1), OUTSIDE);
    }

    private static void promise20Disputes() {
        LabelPeople x = Made.withRows(10);
        x.rule(3, 0, 0, 5);
        due("20 one rule alone", x.about(7), 0);
        x.rule(3, 0, 0, 3);
        due("20 rows 3, 4", x.about(7), 2);
        x.rule(2, 0, 0, 0);
        due("20 rows 3 .. 7", x.about(7), 5);
        x.turn(0, false);
        due("20 rows 3 .. 7 still", x.about(7), 5);
        x.turn(1, false);
        due("20 one is on", x.about(7), 0);
        x.table(0, 1);
        x.turn(0, true);
        due("20 rows 0, 5 .. 7", x.about(7), 4);
        x.rule(0, 0, 1, 0);
        due("20 one that abstains", x.about(7), 4);
        LabelPeople alike = Made.withRows(1);
        for (int rule = 0; rule < 6; rule++) {
            alike.rule(3, 0, 0, 1);
        }
        due("20 six alike", alike.about(7), 0);
        due("14 six alike", alike.votes(0, 0), 6);
    }

    /** Nothing goes astray at the last row, rule, person, label and place. */
    private static void fullRoom() {
        LabelPeople x = Made.withRows(40);
        for (int rule = 0; rule < 6; rule++) {
            x.rule(rule % 4, 0, 0, 0);
        }
        for (int person = 0; person < 8; person++) {
            for (int row = 0; row < 40; row++) {
                due("3 in full", x.label(person, row, (row + person) % 5), 1);
            }
        }
        int[] abstains = {1, 1, 32, 0, 1, 1};
        for (int rule = 0; rule < 6; rule++) {
            due("13 in full", x.abstains(rule), abstains[rule]);
        }
        due("20 labellings in full", x.about(1), 320);
        due("14 in full", x.votes(39, 1), 20 + 3);
        due("15 in full", x.decided(39), 1);
        due("20 disputes in full", x.about(7), 40);
        due("19 none left in full", x.next(7), NONE);
        due("17 in full", x.agree(6, 7, 3), 0);
        due("17 rows in full", x.agree(0, 5, 3), 40);
        due("18 in full", x.all(3), 320);
        due("18 rows in full", x.all(2), 40);
        due("18 numerator in full", x.all(0), -13);
        due("18 denominator in full", x.all(1), 112);
        for (int row = 0; row < 40; row++) {
            due("5 in full", x.gold(row, 4), NONE);
        }
        due("20 gold in full", x.about(4), 40);
        due("20 decided in full", x.about(3), 40);
        due("20 barred in full", x.about(6), 8);
        due("16 in full", x.learn(20), 2);
        for (int person = 0; person < 8; person++) {
            due("8 wrong in full", x.person(person, 1), 32);
            due("8 labelled in full", x.person(person, 3), 40);
            due("16 trust in full", x.person(person, 0), 1 + 9 * 8 / 40);
        }
    }
}
