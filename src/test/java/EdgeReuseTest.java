import java.util.ArrayList;
import java.util.List;
import java.util.function.ToLongFunction;

/**
 * What a call answers follows from what is told alone, not from what was told or asked before: a full office before
 * an empty one, a long row before a short one, an answer before a refusal.
 */
public final class EdgeReuseTest {
    private static final Checks C = new Checks();
    private static final String[] OFFICES = {
        "", "plain 30 12 20 10;", "plain 0 1 0 0;call 0 99 20;call 0 5 1;call 0 98 1;",
        "plain 0 1 0 5;plain 30 1 3 5;call 0 9 9;call 1 8 8;",
        "soft 0 3 5 5;plain 4 2 1 8;fair 6 1 2 2;call 0 20 3;call 2 10 1;call 1 8 9;ear 4;fade 3;",
        "deaf 9 9 9 9;deaf 9 9 9 9;deaf 9 9 9 9;machine 1;call 2 5 5;",
        "near 1 1 1 1;fair 3 1 0 5;soft 5 7 7 9;plain 2 2 2 2;near 8 8 8 8;call 4 4 4;call 3 33 13;call 0 1 12;machine 9;",
        "plain 5 1 0 5;".repeat(8) + "call 0 99 20;call 7 98 20;".repeat(5) + "fade 0;",
        "fair 15 12 20 10;".repeat(7) + "plain 0 1 1 1;" + "call 7 1 1;".repeat(10) + "ear 30;machine 20;fade 9;"};
    private static final String DAY = "away 0;ring 0;away 1;ring 1;back 0;read 0;ring 2;back 1;";
    private static final String LOG = "silent 0;";

    public static void main(String[] args) {
        for (String first : OFFICES) {
            for (String then : OFFICES) {
                inThePlaceOf(first, then);
                besideEachOther(first, then);
            }
            backwards(first);
        }
        afterARefusal();
        upToTheLastCall();
        C.finish();
    }

    private static DeskRings told(String... offices) {
        DeskRings x = new DeskRings();
        for (String office : offices) {
            C.due("the office is told", Checks.tell(x, 0, -1, office) >= 0, true);
        }
        Checks.tell(x, 1, -1, DAY);
        Checks.tell(x, 2, -1, LOG);
        return x;
    }

    private static void inThePlaceOf(String first, String then) {
        DeskRings x = told(first);
        answers(x, questions(0, x));
        C.due("in its place", Checks.tell(x, 0, 0, then), 0);
        same("'" + then + "' in the place of '" + first + "'", answers(x, questions(0, x)), fresh(then));
    }

    private static void besideEachOther(String first, String then) {
        DeskRings x = told(first, then);
        answers(x, questions(0, x));
        same("'" + then + "' beside '" + first + "'", answers(x, questions(1, x)), fresh(then));
    }

    private static void backwards(String office) {
        DeskRings x = told(office);
        List<ToLongFunction<DeskRings>> questions = questions(0, x);
        List<Long> backwards = new ArrayList<>();
        for (int i = questions.size() - 1; i >= 0; i--) {
            backwards.add(0, questions.get(i).applyAsLong(x));
        }
        same("'" + office + "' asked backwards", backwards, fresh(office));
    }

    private static List<Long> fresh(String office) {
        DeskRings x = told(office);
        return answers(x, questions(0, x));
    }

    private static void same(String when, List<Long> have, List<Long> want) {
        C.due("answers of " + when, have.size(), want.size());
        for (int i = 0; i < want.size() && i < have.size(); i++) {
            C.due("answer " + i + " of " + when, have.get(i), want.get(i));
        }
    }

    private static List<Long> answers(DeskRings x, List<ToLongFunction<DeskRings>> questions) {
        List<Long> answers = new ArrayList<>();
        for (ToLongFunction<DeskRings> question : questions) {
            answers.add(question.applyAsLong(x));
        }
        return answers;
    }

    private static List<ToLongFunction<DeskRings>> questions(int o, DeskRings told) {
        List<ToLongFunction<DeskRings>> q = new ArrayList<>();
        int desks = told.office(o, 0);
        int calls = told.office(o, 1);
        ofPlans(q, o, desks, calls);
        ofPlaces(q, o, desks);
        ofLifting(q, o, desks, calls);
        ofDays(q, o);
        return q;
    }

    private static void ofPlans(List<ToLongFunction<DeskRings>> q, int o, int desks, int calls) {
        for (int k = -1; k <= calls; k += 1 + calls / 5) {
            int call = k;
            q.add(x -> x.given(o, call));
        }
        for (int n : new int[] {5, 20, 3, 0}) {
            q.add(x -> x.duty(o, n, -1));
            q.add(x -> x.duty(o, n, n - 2));
            q.add(x -> x.order(o, n, -1));
            q.add(x -> x.order(o, n, n - 2));
        }
        for (int n : new int[] {desks, desks / 2, 0}) {
            q.add(x -> x.lunch(o, n, false));
            q.add(x -> x.lunch(o, n, true));
        }
        for (int k = 0; k < 16; k++) {
            int rule = k / 4;
            int what = k % 4;
            q.add(x -> x.rule(o, rule, what));
        }
        q.add(x -> x.best(o));
        q.add(x -> x.curve(o, 12));
    }

    private static void ofPlaces(List<ToLongFunction<DeskRings>> q, int o, int desks) {
        for (boolean second : new boolean[] {false, true}) {
            q.add(x -> x.board(o, second));
            q.add(x -> x.rooms(o, second));
            q.add(x -> x.loud(o, second));
            q.add(x -> x.seat(o, desks - 1, second));
        }
        q.add(x -> x.quiet(o, 0));
        q.add(x -> x.ears(o));
        q.add(x -> x.passed(o, 0, desks - 1));
    }

    private static void ofLifting(List<ToLongFunction<DeskRings>> q, int o, int desks, int calls) {
        q.add(x -> x.enough(o));
        for (int d = 0; d < desks; d += 1 + desks / 4) {
            int desk = d;
            q.add(x -> x.tied(o, desk));
            q.add(x -> x.who(o, desk, 1 << desks - 1, true));
            for (int k : new int[] {-1, -2, 0, 4}) {
                q.add(x -> x.rest(o, desk, 5, k));
            }
            q.add(x -> x.fewer(o, desk, 5, 2));
        }
        for (boolean under : new boolean[] {false, true}) {
            q.add(x -> x.odds(o, calls - 1, under));
            q.add(x -> x.mean(o, 0, under));
            q.add(x -> x.empty(o, desks / 2, under));
            q.add(x -> x.blame(o, 0, under));
        }
        for (int k : new int[] {-1, -2, 0, desks - 1}) {
            q.add(x -> x.button(o, k));
        }
        for (int what : new int[] {0, 1, 2, 3, 10, 11}) {
            q.add(x -> x.fits(o, 0, what));
        }
    }

    private static void ofDays(List<ToLongFunction<DeskRings>> q, int o) {
        q.add(x -> x.stop(o, 0));
        for (int what : new int[] {0, 1, 2, 3, 4, 5, 6, 10, 20, 30}) {
            q.add(x -> x.state(o, 0, 2, what));
            q.add(x -> x.drawn(o, 77, 60, what));
        }
        for (int what = 0; what < 3; what++) {
            int asked = what;
            q.add(x -> x.after(o, 0, asked));
        }
    }

    /** "at most 512 calls after it has been made": the last of them is as good as the first. */
    private static void upToTheLastCall() {
        DeskRings x = new DeskRings();
        C.due("the first call", x.text(0, -1), 0);
        for (int call = 2; call <= 509; call++) {
            C.due("call " + call, call % 2 == 0 ? x.drawn(0, call, 60, 4) : x.text(0, 0), 0);
        }
        C.due("call 510", x.feed(0x65617237, 0x3b202020, 0x20202020, 0x20202020, 0x20202020), 20);
        C.due("call 511", x.text(0, 0), 0);
        C.due("call 512", x.office(0, 2), 7);
    }

    /** An answer that is none is none, though there was one just before. */
    private static void afterARefusal() {
        DeskRings x = Checks.office("plain 0 1 2 5;plain 5 2 3 5;plain 30 1 4 5;call 0 9 9;call 2 7 7;call 2 3 3;");
        C.due("tied by one", x.tied(0, 0), 2);
        C.due("tied by nobody", x.tied(0, 2), 0);
        C.due("lifted", x.who(0, 0, 2, true), 2);
        C.due("by nobody", x.who(0, 2, 3, true), -1);
        C.due("by nobody", x.who(0, 2, 3, false), -1);
        C.due("lifted in a rest", x.rest(0, 0, 9, -2), 1);
        C.due("in none", x.rest(0, 2, 9, -2), -1);
        C.due("duty of 20 days", x.duty(0, 20, -1), 50);
        C.due("in the place of it", x.text(0, 0), 0);
        C.due("duty of none", x.duty(0, 0, -1), 0);
        C.due("given of none", x.given(0, -1), 0);
        C.due("lunch of none", x.lunch(0, 0, true), 0);
        C.due("button of none", x.button(0, -1), 0);
        Checks.tell(x, 0, 0, "plain 0 1 9 0;".repeat(7) + "plain 0 1 1 0;");
        C.due("the last on duty", x.duty(0, 1, 0), 7);
        Checks.tell(x, 0, 0, "plain 0 1 9 0;");
        C.due("duty of no days", x.duty(0, 0, -1), 0);
    }
}
