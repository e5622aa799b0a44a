import java.util.ArrayList;
import java.util.List;
import java.util.function.ToLongFunction;

/** 'REFUSALS, of several the first one', and 'What is refused changes nothing', of every call that refuses. */
public final class RefusalEdgeTest {
    private static final int NONE = -1, UNKNOWN = -101, OUTSIDE = -102, ROOM = -104;
    private static final int LEAST = Integer.MIN_VALUE, GREATEST = Integer.MAX_VALUE;
    private static final Check CHECK = new Check();

    public static void main(String[] args) {
        unknownBeforeOutside();
        outsideBeforeRoom();
        argumentBeforeArithmetic();
        refusedOnes();
        refusedByThrowing();
        refusedInFull();
        saidTwice();
        askedOnly();
        CHECK.end();
    }

    private static void due(String call, long got, long want) {
        CHECK.due(call, got, want);
    }

    private static void unknownBeforeOutside() {
        CHECK.sentence("REFUSALS, of several the first one: UNKNOWN (a number names nothing), OUTSIDE (a number is not as said)");
        LabelPeople x = busy();
        for (int number : new int[] {LEAST, -2, 8, GREATEST}) {
            due("no person, no label", x.label(number, 0, 5), UNKNOWN);
            due("no row, no label", x.label(0, number, 5), UNKNOWN);
            due("no person, no row, no label", x.label(number, number, number), UNKNOWN);
            due("no row, no label", x.gold(number, number), UNKNOWN);
            due("no row, no label", x.votes(number, number), UNKNOWN);
            due("no person, no what", x.person(number, number), UNKNOWN);
            due("no label alone", x.label(0, 0, number), OUTSIDE);
            due("no label alone", x.gold(0, number), OUTSIDE);
            due("no label alone", x.votes(0, number), OUTSIDE);
            due("no what alone", x.person(0, number), OUTSIDE);
        }
    }

    private static void outsideBeforeRoom() {
        CHECK.sentence("UNKNOWN (a number names nothing), OUTSIDE (a number is not as said), ROOM.");
        LabelPeople x = full();
        due("no room", x.rule(3, 3, 3, 0), ROOM);
        for (int number : new int[] {LEAST, -1, 4, GREATEST}) {
            due("no kind, no room", x.rule(number, 0, 0, 0), OUTSIDE);
            due("no i, no room", x.rule(0, number, 0, 0), OUTSIDE);
            due("no j, no room", x.rule(0, 0, number, 0), OUTSIDE);
        }
        due("c is never outside", x.rule(0, 0, 0, LEAST), ROOM);
        due("features are never outside", x.row(LEAST, GREATEST, LEAST, GREATEST), ROOM);
    }

    private static void argumentBeforeArithmetic() {
        CHECK.sentence("IllegalArgumentException: there is no such RULE, ROW.");
        LabelPeople x = busy();
        CHECK.dueThrow("a rule that divides by 0, no row", () -> x.says(0, 3), IllegalArgumentException.class);
        CHECK.dueThrow("a rule without a place, no row", () -> x.says(1, 3), IllegalArgumentException.class);
        CHECK.dueThrow("nothing of two, no what", () -> x.agree(6, 7, 4), IllegalArgumentException.class);
        CHECK.dueThrow("nothing of one with itself", () -> x.agree(7, 7, 0), IllegalArgumentException.class);
        LabelPeople none = new LabelPeople();
        CHECK.dueThrow("nothing of all, no what", () -> none.all(-1), IllegalArgumentException.class);
    }

    /** Three rows, four rules, and nothing as it was at first. */
    private static LabelPeople busy() {
        LabelPeople x = Made.withWords("012", "0.1", "11.", "2.2");
        x.rule(0, 0, 1, 0);
        x.rule(2, 0, 0, 7);
        x.rule(3, 0, 0, 1);
        x.rule(1, 0, 0, 3);
        x.turn(2, false);
        x.table(7, 9);
        x.table(0, LEAST);
        x.gold(1, 2);
        x.bound(2);
        x.expert(3, true);
        x.learn(2);
        return x;
    }

    private static LabelPeople full() {
        LabelPeople x = Made.withRows(40);
        for (int rule = 0; rule < 6; rule++) {
            x.rule(3, rule % 2, 0, 40 - rule);
        }
        x.label(0, 39, 3);
        return x;
    }

    private static void refusedOnes() {
        CHECK.sentence("What is refused changes nothing.");
        changesNothing("label, no person", UNKNOWN, x -> x.label(8, 0, 0));
        changesNothing("label, person -1", UNKNOWN, x -> x.label(-1, 1, 0));
        changesNothing("label, no row", UNKNOWN, x -> x.label(4, 3, 0));
        changesNothing("label, row -1", UNKNOWN, x -> x.label(4, -1, 0));
        changesNothing("label, no label", OUTSIDE, x -> x.label(4, 0, 5));
        changesNothing("label, label -1", OUTSIDE, x -> x.label(4, 1, -1));
        changesNothing("label, as none after a label", OUTSIDE, x -> x.label(0, 0, -1));
        changesNothing("said, no person", UNKNOWN, x -> x.said(8, 0));
        changesNothing("said, no row", UNKNOWN, x -> x.said(0, 3));
        changesNothing("gold, no row", UNKNOWN, x -> x.gold(3, 0));
        changesNothing("gold, row -1", UNKNOWN, x -> x.gold(-1, NONE));
        changesNothing("gold, no label", OUTSIDE, x -> x.gold(1, 5));
        changesNothing("gold, label -2", OUTSIDE, x -> x.gold(1, -2));
        changesNothing("bound, 0", OUTSIDE, x -> x.bound(0));
        changesNothing("bound, 10", OUTSIDE, x -> x.bound(10));
        changesNothing("expert, no person", UNKNOWN, x -> x.expert(8, true));
        changesNothing("expert, person -1", UNKNOWN, x -> x.expert(-1, true));
        changesNothing("person, no what", OUTSIDE, x -> x.person(0, 4));
        changesNothing("person, no person", UNKNOWN, x -> x.person(8, 0));
        changesNothing("rule, no kind", OUTSIDE, x -> x.rule(4, 0, 0, 0));
        changesNothing("rule, no i", OUTSIDE, x -> x.rule(0, 4, 0, 0));
        changesNothing("rule, no j", OUTSIDE, x -> x.rule(0, 0, -1, 0));
        changesNothing("turn, no rule", UNKNOWN, x -> x.turn(4, true));
        changesNothing("turn, rule -1", UNKNOWN, x -> x.turn(-1, false));
        changesNothing("table, place 8", OUTSIDE, x -> x.table(8, 1));
        changesNothing("table, place -1", OUTSIDE, x -> x.table(-1, 1));
        changesNothing("abstains, no rule", UNKNOWN, x -> x.abstains(4));
        changesNothing("votes, no row", UNKNOWN, x -> x.votes(3, 0));
        changesNothing("votes, no label", OUTSIDE, x -> x.votes(0, 5));
        changesNothing("decided, no row", UNKNOWN, x -> x.decided(3));
        changesNothing("learn, 0", OUTSIDE, x -> x.learn(0));
        changesNothing("learn, 21", OUTSIDE, x -> x.learn(21));
        changesNothing("next, no person", UNKNOWN, x -> x.next(8));
        changesNothing("about, no what", OUTSIDE, x -> x.about(8));
    }

    private static void refusedByThrowing() {
        CHECK.sentence("What is refused changes nothing. (by an exception)");
        String argument = "throws.IllegalArgumentException";
        String arithmetic = "throws.ArithmeticException";
        changesNothing("says, no rule", argument, x -> x.says(4, 0));
        changesNothing("says, no row", argument, x -> x.says(0, 3));
        changesNothing("says, division by 0", arithmetic, x -> x.says(0, 0));
        changesNothing("says, no place", "throws.ArrayIndexOutOfBoundsException", x -> x.says(1, 1));
        changesNothing("agree, no person", argument, x -> x.agree(0, 8, 0));
        changesNothing("agree, the same", argument, x -> x.agree(0, 0, 0));
        changesNothing("agree, no what", argument, x -> x.agree(0, 1, 4));
        changesNothing("agree, n n - s is 0", arithmetic, x -> x.agree(6, 7, 1));
        changesNothing("all, no what", argument, x -> x.all(4));
    }

    private static void refusedInFull() {
        CHECK.sentence("What is refused changes nothing. (in full)");
        LabelPeople x = full();
        due("a row", x.row(-1, -1, -1, -1), ROOM);
        due("a rule", x.rule(0, 1, 1, 0), ROOM);
        due("no rule", x.rule(4, 1, 1, 0), OUTSIDE);
        CHECK.dueText("all is as it was", stateInFull(x), stateInFull(full()));
    }

    private static void saidTwice() {
        CHECK.sentence("what it says later does not count.");
        changesNothing("the same label", 0, x -> x.label(0, 0, 0));
        changesNothing("another label", 0, x -> x.label(0, 0, 3));
        changesNothing("another label on gold", 0, x -> x.label(0, 1, 2));
    }

    private static void askedOnly() {
        CHECK.sentence("Nothing is promised beyond the answers and state changes described above");
        LabelPeople x = busy();
        String first = state(x);
        CHECK.dueText("asked a second time", state(x), first);
    }

    private static void changesNothing(String call, int want, ToLongFunction<LabelPeople> made) {
        changesNothing(call, Integer.toString(want), made);
    }

    private static void changesNothing(String call, String want, ToLongFunction<LabelPeople> made) {
        LabelPeople x = busy();
        CHECK.dueText(call, Check.outcome(() -> made.applyAsLong(x)), want);
        CHECK.dueText(call + ": all", state(x), state(busy()));
    }

    /** All that can be asked of an object with three rows and four rules, in fewer than 250 calls. */
    private static String state(LabelPeople x) {
        List<String> answers = new ArrayList<>();
        for (int what = 0; what < 8; what++) {
            answers.add("about " + x.about(what));
        }
        for (int p = 0; p < 8; p++) {
            answers.add("person " + x.person(p, 0) + x.person(p, 1) + x.person(p, 2) + x.person(p, 3) + x.next(p));
            answers.add("said " + x.said(p, 0) + x.said(p, 1) + x.said(p, 2) + expertNow(x, p) + placeNow(x, p));
        }
        for (int row = 0; row < 3; row++) {
            answers.add("decided " + x.decided(row) + goldNow(x, row));
            for (int label = 0; label < 5; label++) {
                answers.add("votes " + x.votes(row, label));
            }
        }
        for (int rule = 0; rule < 4; rule++) {
            answers.add("rule " + x.abstains(rule) + onNow(x, rule));
            for (int row = 0; row < 3; row++) {
                int k = rule;
                int r = row;
                answers.add("says " + Check.outcome(() -> x.says(k, r)));
            }
        }
        for (int what = 0; what < 4; what++) {
            int w = what;
            answers.add("agree " + Check.outcome(() -> x.agree(0, 1, w)) + Check.outcome(() -> x.agree(2, 3, w)));
            answers.add("all " + Check.outcome(() -> x.all(w)));
        }
        return String.join(" ", answers);
    }

    private static String stateInFull(LabelPeople x) {
        StringBuilder answers = new StringBuilder();
        for (int row = 0; row < 40; row++) {
            answers.append(x.decided(row)).append(x.votes(row, 0)).append(x.said(0, row));
            for (int rule = 0; rule < 6; rule++) {
                answers.append(x.says(rule, row));
            }
        }
        for (int what = 0; what < 8; what++) {
            answers.append(' ').append(x.about(what));
        }
        return answers.toString();
    }

    // What no call tells without a change is changed, and changed back.

    private static String expertNow(LabelPeople x, int person) {
        boolean was = x.expert(person, true) == 0;
        x.expert(person, was);
        return " expert " + was;
    }

    private static String placeNow(LabelPeople x, int place) {
        int was = x.table(place, 0);
        x.table(place, was);
        return " place " + was;
    }

    private static String goldNow(LabelPeople x, int row) {
        int was = x.gold(row, NONE);
        x.gold(row, was);
        return " gold " + was;
    }

    private static String onNow(LabelPeople x, int rule) {
        boolean was = x.turn(rule, true) == 0;
        x.turn(rule, was);
        return " on " + was;
    }
}
