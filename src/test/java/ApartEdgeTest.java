import java.util.ArrayList;
import java.util.List;
import java.util.function.ToLongFunction;

/** Each call changes what its promise tells and nothing beside it: GOLD, BARRED, EXPERTS, ON and TRUST stay apart. */
public final class ApartEdgeTest {
    private static final int NONE = -1;
    private static final Check CHECK = new Check();

    public static void main(String[] args) {
        trustStaysUntilLearning();
        barredStillSaidAndAgree();
        barredExperts();
        goldStillVotesAndSays();
        expertsOnlyDecide();
        rulesOffStillSay();
        twoObjects();
        CHECK.end();
    }

    private static void due(String call, long got, long want) {
        CHECK.due(call, got, want);
    }

    /** Persons 0 .. 2 on rows 0 .. 3; a row is decided by two of three, or open. */
    private static LabelPeople labelled() {
        LabelPeople x = Made.withWords("0123", "0124", "0412");
        x.rule(0, 0, 1, 0);
        x.rule(3, 0, 0, 2);
        return x;
    }

    private static void trustStaysUntilLearning() {
        CHECK.sentence("TO LEARN, up to some ROUNDS: TRUST of all is 10; (at no other call)");
        staysLearned("row", 4, x -> x.row(1, 2, 3, 4));
        staysLearned("label", 1, x -> x.label(3, 0, 1));
        staysLearned("label of one that learned", 1, x -> {
            x.row(9, 9, 9, 9);
            return x.label(2, 4, 1);
        });
        staysLearned("label again", 0, x -> x.label(2, 0, 1));
        staysLearned("gold", NONE, x -> x.gold(1, 4));
        staysLearned("bound", 3, x -> x.bound(1));
        staysLearned("expert", 1, x -> x.expert(2, true));
        staysLearned("no expert", 0, x -> x.expert(2, false));
        staysLearned("rule", 2, x -> x.rule(2, 0, 0, 0));
        staysLearned("turn", 1, x -> x.turn(0, false));
        staysLearned("table", 0, x -> x.table(0, 3));
    }

    private static void staysLearned(String call, long want, ToLongFunction<LabelPeople> made) {
        LabelPeople x = labelled();
        due("learn", x.learn(20), 2);
        due(call, made.applyAsLong(x), want);
        due(call + ": trust of 0", x.person(0, 0), 10);
        due(call + ": trust of 1", x.person(1, 0), 10);
        due(call + ": trust of 2", x.person(2, 0), 4);
        due(call + ": trust of 3", x.person(3, 0), 1);
    }

    private static void barredStillSaidAndAgree() {
        CHECK.sentence("It is BARRED while WRONG is BOUND or more. (what it said is said)");
        LabelPeople x = labelled();
        x.gold(0, 1);
        String before = saidAndAgreed(x);
        due("none is barred", x.about(6), 0);
        x.bound(1);
        due("all three are barred", x.about(6), 3);
        CHECK.dueText("what persons said, and how they agree", saidAndAgreed(x), before);
        due("both labelled", x.agree(0, 1, 2), 4);
        due("with one label", x.agree(0, 1, 3), 3);
        due("barred with one that is not", x.agree(0, 3, 2), 0);
        due("labelled by a barred one", x.person(2, 3), 4);
    }

    private static String saidAndAgreed(LabelPeople x) {
        List<String> answers = new ArrayList<>();
        for (int one = 0; one < 3; one++) {
            for (int row = 0; row < 4; row++) {
                answers.add("said " + x.said(one, row));
            }
            for (int what = 0; what < 4; what++) {
                answers.add("agree " + x.agree(one, (one + 1) % 3, what));
                answers.add("all " + x.all(what));
            }
            answers.add("labelled " + x.person(one, 3) + " wrong " + x.person(one, 1));
        }
        return answers + " labellings " + x.about(1);
    }

    private static void barredExperts() {
        CHECK.sentence("NONE: there is none, or it is BARRED. (an EXPERT, too)");
        LabelPeople x = Made.withWords("0..", "1..");
        x.bound(1);
        x.expert(0, true);
        due("next of an expert", x.next(0), 1);
        x.gold(0, 1);
        due("next of a barred expert", x.next(0), NONE);
        due("next of one that is not barred", x.next(1), 1);
        x.gold(0, NONE);
        due("no longer barred", x.next(0), 1);
    }

    private static void goldStillVotesAndSays() {
        CHECK.sentence("A ROW may be GOLD: its LABEL is known. (what persons and RULES say of it stays)");
        LabelPeople x = labelled();
        String before = votesAndWords(x);
        for (int row = 0; row < 4; row++) {
            due("gold", x.gold(row, (row + 4) % 5), NONE);
        }
        x.bound(9);
        due("none is barred", x.about(6), 0);
        due("said of a gold row", x.said(0, 1), 1);
        due("votes against what is known", x.votes(1, 1), 20);
        due("votes for what is known and nobody said", x.votes(1, 0), 1);
        CHECK.dueText("votes and words", votesAndWords(x), before);
        due("decided by gold alone", x.decided(1), 0);
    }

    private static String votesAndWords(LabelPeople x) {
        List<String> answers = new ArrayList<>();
        for (int row = 0; row < 4; row++) {
            for (int label = 0; label < 5; label++) {
                answers.add("votes " + x.votes(row, label));
            }
            for (int rule = 0; rule < 2; rule++) {
                int r = rule;
                int w = row;
                answers.add("says " + Check.outcome(() -> x.says(r, w)));
            }
        }
        return answers + " abstains " + x.abstains(0) + x.abstains(1) + saidAndAgreedByLabel(x);
    }

    private static String saidAndAgreedByLabel(LabelPeople x) {
        return " said " + x.said(0, 0) + x.said(1, 1) + x.said(2, 2) + x.said(2, 3)
                + " agree " + x.agree(0, 2, 0) + "/" + x.agree(0, 2, 1) + " all " + x.all(0) + "/" + x.all(1);
    }

    private static void expertsOnlyDecide() {
        CHECK.sentence("PERSONS may be EXPERTS. (that weighs in no VOTES)");
        LabelPeople x = labelled();
        String before = votesAndWords(x) + saidAndAgreed(x) + x.next(3) + x.next(7);
        due("open", x.decided(3), NONE);
        x.expert(2, true);
        CHECK.dueText("all but what is decided", votesAndWords(x) + saidAndAgreed(x) + x.next(3) + x.next(7), before);
        due("decided by the expert", x.decided(3), 2);
        due("decided by votes, against the expert", x.decided(1), 1);
    }

    private static void rulesOffStillSay() {
        CHECK.sentence("The LABEL that a RULE says of a ROW (ON or not).");
        LabelPeople x = labelled();
        due("on, votes", x.votes(0, 0), 31);
        x.turn(0, false);
        x.turn(1, false);
        due("off, votes", x.votes(0, 0), 30);
        due("off, says", x.says(1, 1), 0);
        due("off, says", x.says(1, 2), 1);
        CHECK.dueThrow("off, abstains", () -> x.says(0, 0), ArithmeticException.class);
        due("off, abstains", x.abstains(0), 4);
    }

    private static void twoObjects() {
        CHECK.sentence("A new object: No ROWS, no RULES. (whatever others were told)");
        LabelPeople busy = labelled();
        busy.gold(0, 1);
        busy.bound(1);
        busy.table(3, 9);
        busy.learn(5);
        LabelPeople fresh = new LabelPeople();
        for (int what = 0; what < 8; what++) {
            due("about " + what, fresh.about(what), what == 5 ? 3 : 0);
        }
        due("a place", fresh.table(3, 1), 0);
        due("trust", fresh.person(2, 0), 10);
        fresh.row(0, 0, 0, 0);
        fresh.gold(0, 2);
        due("the other's gold", busy.gold(0, NONE), 1);
        due("the other's place", busy.table(3, 0), 9);
        due("the other's rows", busy.about(0), 4);
    }
}
