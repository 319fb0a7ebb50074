import java.util.function.IntUnaryOperator;

/** The refusals of each call: which comes first, on both sides of each limit, in each state of the line; they change nothing. */
public final class RefusalEdgesTest {
    private static final Check CHECK = new Check();
    private static final int UNKNOWN = DialPlan.UNKNOWN, OUTSIDE = DialPlan.OUTSIDE, STATE = DialPlan.STATE, FULL = DialPlan.FULL;
    private static final int[] FAR = {Integer.MIN_VALUE, Integer.MIN_VALUE + 1, -1000000, 1000000, Integer.MAX_VALUE - 1, Integer.MAX_VALUE};
    private static final String[] STATES = {"DOWN", "WAITING", "READY", "LOST"};

    public static void main(String[] args) {
        letters();
        adds();
        addsWhenFull();
        drops();
        patterns();
        lets();
        narrower();
        clashes();
        rows();
        rowsThatAreNone();
        stages();
        lifts();
        hangs();
        presses();
        passes();
        ends();
        lines();
        counts();
        CHECK.finish();
    }

    /** Two patterns that clash, a text on the page, and the line in that state. */
    private static DialPlan plan(int state, String page) {
        DialPlan plan = Check.planOf("1X=a:01", "1X=b:0");
        if (state > 0) {
            plan.lift();
            Check.dial(plan, new String[] {"", "1", "12", "2"}[state]);
        }
        CHECK.same("line(0)", plan.line(0), state);
        Check.write(plan, page);
        return plan;
    }

    /** The call answers so, and the digest, which tells of all there is, stays. */
    private static void refused(String call, DialPlan plan, IntUnaryOperator asked, int argument, int due) {
        long before = plan.digest();
        CHECK.same(call + " with " + argument, asked.applyAsInt(argument), due);
        CHECK.same("digest() after " + call + " with " + argument, plan.digest(), before);
    }

    /** Refused at both sides of the limits and far from them. */
    private static void refusedBeyond(String call, DialPlan plan, IntUnaryOperator asked, int least, int most, int due) {
        refused(call, plan, asked, least - 1, due);
        refused(call, plan, asked, most + 1, due);
        for (int far : FAR) {
            refused(call, plan, asked, far, due);
        }
    }

    private static void letters() {
        CHECK.about("2: OUTSIDE: code (32 to 126); FULL: there are 52");
        for (int state = 0; state < 4; state++) {
            DialPlan plan = plan(state, "");
            refusedBeyond("letter()", plan, plan::letter, 32, 126, OUTSIDE);
            refused("letter()", plan, plan::letter, '1' + 256, OUTSIDE);
            refused("letter()", plan, plan::letter, 0, OUTSIDE);
            CHECK.same("letter(32)", plan.letter(32), 1);
            CHECK.same("letter(126)", plan.letter(126), 2);
            Check.write(plan, "x".repeat(49));
            CHECK.same("the 52nd letter", plan.letter(126), 52);
            refused("letter()", plan, plan::letter, 126, FULL);
            refused("letter()", plan, plan::letter, 32, FULL);
            refusedBeyond("letter() on a full page", plan, plan::letter, 32, 126, OUTSIDE);
            CHECK.same("blank()", plan.blank(), 52);
            CHECK.same("letter(32)", plan.letter(32), 1);
        }
    }

    private static void adds() {
        CHECK.about("5: STATE: it is none, or THE LINE is UP");
        for (int state = 0; state < 4; state++) {
            String[] none = {"", "1", "1=a:", "1=a:2", "1=a:012345", "12", " "};
            for (String page : none) {
                DialPlan plan = plan(state, page);
                refused("add() of " + page + " while " + STATES[state], plan, x -> plan.add(), 0, STATE);
            }
        }
        for (int state = 1; state < 4; state++) {
            DialPlan plan = plan(state, "3=c:0");
            refused("add() while " + STATES[state], plan, x -> plan.add(), 0, STATE);
            plan.hang();
            CHECK.same("add() after hang()", plan.add(), 2);
        }
    }

    private static void addsWhenFull() {
        CHECK.about("5: FULL: there are 10 (behind STATE)");
        DialPlan plan = plan(0, "");
        for (int number = 2; number < 10; number++) {
            CHECK.same("add()", Check.add(plan, "3=c:0"), number);
        }
        refused("add() of an empty page", plan, x -> plan.add(), 0, STATE);
        Check.write(plan, "4=c:0");
        refused("add() of the eleventh", plan, x -> plan.add(), 0, FULL);
        plan.lift();
        refused("add() of the eleventh while UP", plan, x -> plan.add(), 0, STATE);
        plan.hang();
        plan.letter('N');
        refused("add() of none", plan, x -> plan.add(), 0, STATE);
        plan.drop(0);
        CHECK.same("add() after drop()", Check.add(plan, "4=c:0"), 9);
    }

    private static void drops() {
        CHECK.about("6: UNKNOWN: pattern; STATE: THE LINE is UP");
        for (int state = 0; state < 4; state++) {
            DialPlan plan = plan(state, "1");
            refusedBeyond("drop() while " + STATES[state], plan, plan::drop, 0, 1, UNKNOWN);
            if (state > 0) {
                refused("drop() while " + STATES[state], plan, plan::drop, 0, STATE);
                refused("drop() while " + STATES[state], plan, plan::drop, 1, STATE);
                plan.hang();
            }
            CHECK.same("drop(1)", plan.drop(1), 1);
            refused("drop() of what is gone", plan, plan::drop, 1, UNKNOWN);
            CHECK.same("drop(0)", plan.drop(0), 0);
            refused("drop() of what is gone", plan, plan::drop, 0, UNKNOWN);
        }
    }

    private static void patterns() {
        CHECK.about("7: UNKNOWN: pattern; OUTSIDE: what");
        for (int state = 0; state < 4; state++) {
            DialPlan plan = plan(state, "1");
            refusedBeyond("pattern(.., 0)", plan, x -> plan.pattern(x, 0), 0, 1, UNKNOWN);
            refusedBeyond("pattern(.., 6)", plan, x -> plan.pattern(x, 6), 0, 1, UNKNOWN);
            refusedBeyond("pattern(1, ..)", plan, x -> plan.pattern(1, x), 0, 5, OUTSIDE);
            refusedBeyond("pattern(2, ..)", plan, x -> plan.pattern(2, x), 0, 5, UNKNOWN);
            CHECK.same("pattern(0, 0)", plan.pattern(0, 0), 2);
            CHECK.same("pattern(0, 5)", plan.pattern(0, 5), 1);
        }
    }

    private static void lets() {
        CHECK.about("8: UNKNOWN: pattern; OUTSIDE: place");
        for (int state = 0; state < 4; state++) {
            DialPlan plan = plan(state, "1");
            refusedBeyond("lets(.., 0)", plan, x -> plan.lets(x, 0), 0, 1, UNKNOWN);
            refusedBeyond("lets(.., 10)", plan, x -> plan.lets(x, 10), 0, 1, UNKNOWN);
            refusedBeyond("lets(1, ..)", plan, x -> plan.lets(1, x), 0, 9, OUTSIDE);
            refusedBeyond("lets(2, ..)", plan, x -> plan.lets(2, x), 0, 9, UNKNOWN);
            CHECK.same("lets(1, 0)", plan.lets(1, 0), 2);
            CHECK.same("lets(1, 9)", plan.lets(1, 9), 0);
        }
    }

    private static void narrower() {
        CHECK.about("9: UNKNOWN: one, other");
        for (int state = 0; state < 4; state++) {
            DialPlan plan = plan(state, "1");
            refusedBeyond("narrower(.., 0)", plan, x -> plan.narrower(x, 0), 0, 1, UNKNOWN);
            refusedBeyond("narrower(1, ..)", plan, x -> plan.narrower(1, x), 0, 1, UNKNOWN);
            refusedBeyond("narrower(2, ..)", plan, x -> plan.narrower(2, x), 0, 1, UNKNOWN);
            refused("narrower(.., ..)", plan, x -> plan.narrower(x, x), 2, UNKNOWN);
            CHECK.same("narrower(0, 1)", plan.narrower(0, 1), 2);
        }
    }

    private static void clashes() {
        CHECK.about("10: UNKNOWN: there are not so many");
        for (int state = 0; state < 4; state++) {
            DialPlan plan = plan(state, "1");
            refusedBeyond("clash()", plan, plan::clash, 0, 0, UNKNOWN);
            CHECK.same("clash(0)", plan.clash(0), 1);
        }
        DialPlan none = new DialPlan();
        refused("clash() with no patterns", none, none::clash, 0, UNKNOWN);
        DialPlan one = Check.planOf("1=a:0");
        refused("clash() with one pattern", one, one::clash, 0, UNKNOWN);
    }

    private static void rows() {
        CHECK.about("11: OUTSIDE: what (ahead of STATE)");
        String[] pages = {"12", "", "N", "12345678901"};
        for (String page : pages) {
            for (int state = 0; state < 4; state++) {
                DialPlan plan = plan(state, page);
                refusedBeyond("row() of " + page, plan, plan::row, 0, 19, OUTSIDE);
                for (int what = 6; what <= 9; what++) {
                    refused("row() of " + page, plan, plan::row, what, OUTSIDE);
                }
            }
        }
    }

    private static void rowsThatAreNone() {
        CHECK.about("11: STATE: it is no ROW");
        String[] pages = {"", "/", ":", "1/", ":1", "1 ", " 1", "1.", "N", "12345678901", "123456789/", "1".repeat(52)};
        for (String page : pages) {
            DialPlan plan = plan(0, page);
            for (int what = 0; what <= 19; what++) {
                refused("row() of " + page, plan, plan::row, what, what >= 6 && what <= 9 ? OUTSIDE : STATE);
            }
        }
        for (int state = 0; state < 4; state++) {
            DialPlan plan = plan(state, "12");
            CHECK.same("row(0) while " + STATES[state], plan.row(0), 0);
            CHECK.same("row(19) while " + STATES[state], plan.row(19), DialPlan.NONE);
        }
    }

    private static void stages() {
        CHECK.about("12: OUTSIDE: stage (0 to 2), v (1 to 99)");
        for (int state = 0; state < 4; state++) {
            DialPlan plan = plan(state, "1");
            refusedBeyond("stage(.., 5)", plan, x -> plan.stage(x, 5), 0, 2, OUTSIDE);
            refusedBeyond("stage(0, ..)", plan, x -> plan.stage(0, x), 1, 99, OUTSIDE);
            refusedBeyond("stage(2, ..)", plan, x -> plan.stage(2, x), 1, 99, OUTSIDE);
            refused("stage(0, ..)", plan, x -> plan.stage(0, x), -5, OUTSIDE);
            refused("stage(.., 100)", plan, x -> plan.stage(x, 100), 3, OUTSIDE);
            CHECK.same("stage(0, 1)", plan.stage(0, 1), 15);
            CHECK.same("stage(0, 99)", plan.stage(0, 99), 1);
            CHECK.same("stage(1, 99)", plan.stage(1, 99), 8);
            CHECK.same("stage(2, 1)", plan.stage(2, 1), 4);
        }
    }

    private static void lifts() {
        CHECK.about("13: STATE: it is UP");
        for (int state = 1; state < 4; state++) {
            DialPlan plan = plan(state, "1");
            refused("lift() while " + STATES[state], plan, x -> plan.lift(), 0, STATE);
            plan.hang();
            CHECK.same("lift() after hang()", plan.lift(), 15);
        }
    }

    private static void hangs() {
        CHECK.about("14: STATE: it is DOWN");
        DialPlan fresh = new DialPlan();
        refused("hang() of a new one", fresh, x -> fresh.hang(), 0, STATE);
        for (int state = 1; state < 4; state++) {
            DialPlan plan = plan(state, "1");
            CHECK.same("hang()", plan.hang(), state == 2 ? 2 : 1);
            refused("hang() after hang()", plan, x -> plan.hang(), 0, STATE);
        }
    }

    private static void presses() {
        CHECK.about("15: OUTSIDE: digit (0 to 9); STATE: it is not WAITING");
        for (int state = 0; state < 4; state++) {
            DialPlan plan = plan(state, "1");
            refusedBeyond("press() while " + STATES[state], plan, plan::press, 0, 9, OUTSIDE);
            refused("press() while " + STATES[state], plan, plan::press, '1', OUTSIDE);
            if (state != 1) {
                refused("press() while " + STATES[state], plan, plan::press, 0, STATE);
                refused("press() while " + STATES[state], plan, plan::press, 9, STATE);
            } else {
                CHECK.same("press(9)", plan.press(9), 2);
            }
        }
    }

    private static void passes() {
        CHECK.about("16: OUTSIDE: n (1 to 99); STATE: it is not WAITING");
        for (int state = 0; state < 4; state++) {
            DialPlan plan = plan(state, "1");
            refusedBeyond("pass() while " + STATES[state], plan, plan::pass, 1, 99, OUTSIDE);
            refused("pass() while " + STATES[state], plan, plan::pass, -1, OUTSIDE);
            if (state != 1) {
                refused("pass() while " + STATES[state], plan, plan::pass, 1, STATE);
                refused("pass() while " + STATES[state], plan, plan::pass, 99, STATE);
            } else {
                CHECK.same("pass(1)", plan.pass(1), 1);
                CHECK.same("pass(99)", plan.pass(99), 3);
            }
        }
    }

    private static void ends() {
        CHECK.about("17: STATE: it is not WAITING");
        for (int state = 0; state < 4; state++) {
            DialPlan plan = plan(state, "1");
            if (state == 1) {
                CHECK.same("end()", plan.end(), 3);
            }
            refused("end() while it is not WAITING", plan, x -> plan.end(), state, STATE);
        }
    }

    private static void lines() {
        CHECK.about("18: OUTSIDE: what");
        for (int state = 0; state < 4; state++) {
            DialPlan plan = plan(state, "1");
            refusedBeyond("line() while " + STATES[state], plan, plan::line, 0, 19, OUTSIDE);
            refused("line() while " + STATES[state], plan, plan::line, 8, OUTSIDE);
            refused("line() while " + STATES[state], plan, plan::line, 9, OUTSIDE);
            CHECK.same("line(19)", plan.line(19), DialPlan.NONE);
        }
    }

    private static void counts() {
        CHECK.about("19: OUTSIDE");
        for (int state = 0; state < 4; state++) {
            DialPlan plan = plan(state, "1");
            refusedBeyond("count() while " + STATES[state], plan, plan::count, 0, 9, OUTSIDE);
            CHECK.same("count(0)", plan.count(0), 2);
        }
    }
}
