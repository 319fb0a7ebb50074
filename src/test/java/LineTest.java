/** Promises 12 to 18: stage, lift, hang, press, pass, end, line. */
public final class LineTest {
    private static final Check CHECK = new Check();
    private static final int WAITING = 1, READY = 2, LOST = 3;

    public static void main(String[] args) {
        stages();
        liftsAndHangs();
        hungLineForgets();
        pressRefusals();
        pressesToTheEnd();
        helpComesFirst();
        ticks();
        stagesWhileWaiting();
        passRefusals();
        endsByHand();
        wayInTheEnd();
        sureness();
        lineRefusals();
        CHECK.finish();
    }

    private static DialPlan lifted(String... patterns) {
        DialPlan plan = Check.planOf(patterns);
        plan.lift();
        return plan;
    }

    /** What line() tells for 0 to 7. */
    private static void told(String when, DialPlan plan, int... due) {
        for (int what = 0; what < due.length; what++) {
            CHECK.same(when + ": line(" + what + ")", plan.line(what), due[what]);
        }
    }

    private static void toldDigits(String when, DialPlan plan, String digits) {
        for (int place = 0; place < 10; place++) {
            int due = place < digits.length() ? digits.charAt(place) - '0' : DialPlan.NONE;
            CHECK.same(when + ": line(" + (10 + place) + ")", plan.line(10 + place), due);
        }
    }

    private static void stages() {
        DialPlan plan = new DialPlan();
        int[] first = {15, 8, 4};
        for (int stage = 0; stage < 3; stage++) {
            CHECK.same("stage(" + stage + ", 1)", plan.stage(stage, 1), first[stage]);
            CHECK.same("stage(" + stage + ", 99)", plan.stage(stage, 99), 1);
            CHECK.same("count of " + stage, plan.count(3 + stage), 99);
        }
        long before = plan.digest();
        int[] wrong = {-1, 3, Integer.MIN_VALUE, Integer.MAX_VALUE};
        for (int w : wrong) {
            CHECK.same("stage(" + w + ", 5)", plan.stage(w, 5), DialPlan.OUTSIDE);
        }
        int[] wrongTicks = {0, 100, -1, Integer.MIN_VALUE, Integer.MAX_VALUE};
        for (int w : wrongTicks) {
            CHECK.same("stage(1, " + w + ")", plan.stage(1, w), DialPlan.OUTSIDE);
        }
        CHECK.same("digest after refusals", plan.digest(), before);
    }

    private static void liftsAndHangs() {
        DialPlan plan = Check.planOf("12=a:0", "34.=b:0");
        CHECK.same("hang() while DOWN", plan.hang(), DialPlan.STATE);
        CHECK.same("lift()", plan.lift(), 15);
        told("lifted", plan, WAITING, 0, 15, 0, -1, -1, 0, -1);
        plan.pass(5);
        long before = plan.digest();
        CHECK.same("lift() while WAITING", plan.lift(), DialPlan.STATE);
        CHECK.same("digest after lift() while WAITING", plan.digest(), before);
        CHECK.same("hang() with no digits", plan.hang(), 0);
        plan.lift();
        Check.dial(plan, "1");
        CHECK.same("hang() while WAITING", plan.hang(), 1);
        told("hung while WAITING", plan, 0, 0, 0, -1, -1, -1, 0, -1);
        toldDigits("hung while WAITING", plan, "");
        plan.lift();
        told("lifted again", plan, WAITING, 0, 15, 0, -1, -1, 0, -1);
        toldDigits("lifted again", plan, "");
        Check.dial(plan, "12");
        CHECK.same("lift() while READY", plan.lift(), DialPlan.STATE);
        CHECK.same("hang() while READY", plan.hang(), 2);
        plan.lift();
        Check.dial(plan, "5");
        CHECK.same("lift() while LOST", plan.lift(), DialPlan.STATE);
        CHECK.same("hang() while LOST", plan.hang(), 1);
        CHECK.same("hang() again", plan.hang(), DialPlan.STATE);
        CHECK.same("how often lifted", plan.count(6), 4);
    }

    private static void hungLineForgets() {
        DialPlan plan = lifted("12=a:0", "34.=b:0");
        Check.dial(plan, "12");
        told("ready", plan, READY, 2, 0, -1, 0, 1, 1, 0);
        toldDigits("ready", plan, "12");
        plan.hang();
        told("hung", plan, 0, 0, 0, -1, -1, -1, 0, -1);
        toldDigits("hung", plan, "");
    }

    private static void pressRefusals() {
        DialPlan plan = Check.planOf("1=a:0");
        int[] wrong = {-1, 10, Integer.MIN_VALUE, Integer.MAX_VALUE};
        for (int w : wrong) {
            CHECK.same("press(" + w + ") while DOWN", plan.press(w), DialPlan.OUTSIDE);
        }
        CHECK.same("press(1) while DOWN", plan.press(1), DialPlan.STATE);
        plan.lift();
        long before = plan.digest();
        for (int w : wrong) {
            CHECK.same("press(" + w + ")", plan.press(w), DialPlan.OUTSIDE);
        }
        CHECK.same("digest after refusals", plan.digest(), before);
        CHECK.same("press(1)", plan.press(1), READY);
        CHECK.same("press(1) while READY", plan.press(1), DialPlan.STATE);
        plan.hang();
        plan.lift();
        CHECK.same("press(2)", plan.press(2), LOST);
        CHECK.same("press(1) while LOST", plan.press(1), DialPlan.STATE);
        CHECK.same("digits pressed, ever", plan.count(9), 2);
    }

    private static void dials(String digits, int due, String... patterns) {
        DialPlan plan = lifted(patterns);
        CHECK.same("press() of " + digits, Check.dial(plan, digits), due);
        CHECK.same("digits of " + digits, plan.line(1), digits.length());
        CHECK.same("how " + digits + " ended", plan.line(6), due == WAITING ? 0 : 1);
        toldDigits("pressed " + digits, plan, digits);
    }

    private static void pressesToTheEnd() {
        dials("5", LOST);
        dials("0", READY, "0=a:0");
        dials("9", LOST, "0=a:0");
        dials("1", WAITING, "1=a:0", "12=a:0");
        dials("12", READY, "1=a:0", "12=a:0");
        dials("13", LOST, "1=a:0", "12=a:0");
        dials("13", LOST, "1=a:0", "12=a:0", "23=a:0");
        dials("123456789", WAITING, "1.=a:0");
        dials("1234567890", READY, "1.=a:0");
        dials("1234567", WAITING, "1234567X=a:0");
        dials("12345670", READY, "1234567X=a:0");
        dials("12", READY, "12=-:0");
        dials("12", READY, "12=*:0");
    }

    private static void helpComesFirst() {
        DialPlan plan = lifted("11.=a:0", "1=b:0", "X12=!:3", "11X=!:0555", "112=c:0");
        CHECK.same("press(1)", plan.press(1), WAITING);
        CHECK.same("press(1)", plan.press(1), WAITING);
        CHECK.same("press(2)", plan.press(2), READY);
        told("help", plan, READY, 3, 0, -1, 3, -1, 4, 9);
        CHECK.same("the winner of all", Check.row(plan, "112", 0), 4);
        CHECK.same("the way of all", Check.row(plan, "112", 3), 2);
        CHECK.same("ready", plan.count(7), 1);
        DialPlan early = lifted("1.=!:0", "12=a:0");
        CHECK.same("help though longer ones could be", early.press(1), READY);
        told("early help", early, READY, 1, 0, -1, 0, -1, 4, 9);
        DialPlan fits = lifted("12=!:0", "1=!:0", "1=!:1", "X=b:0");
        fits.press(1);
        told("first of like ones", fits, READY, 1, 0, -1, 1, -1, 4, 9);
        DialPlan leads = lifted("12=!:0", "1X=b:0");
        CHECK.same("help that does not fit yet", leads.press(1), WAITING);
        CHECK.same("help that never fits", leads.press(3), READY);
        told("no help", leads, READY, 2, 0, -1, 1, 2, 1, 1);
        DialPlan last = lifted("1X.=a:0", "12345678.=!:0");
        CHECK.same("help at its last place", Check.dial(last, "12345678"), READY);
        CHECK.same("ended by help", last.line(6), 4);
    }

    private static void ticks() {
        DialPlan plan = lifted("12=a:0", "123=b:0", "1239.=c:0");
        CHECK.same("pass(14)", plan.pass(14), WAITING);
        CHECK.same("left", plan.line(2), 1);
        CHECK.same("press(1)", plan.press(1), WAITING);
        told("one digit", plan, WAITING, 1, 8, 1, -1, -1, 0, -1);
        CHECK.same("pass(7)", plan.pass(7), WAITING);
        CHECK.same("press(2)", plan.press(2), WAITING);
        told("two digits", plan, WAITING, 2, 4, 2, -1, -1, 0, -1);
        CHECK.same("pass(1)", plan.pass(1), WAITING);
        CHECK.same("left", plan.line(2), 3);
        CHECK.same("pass(3)", plan.pass(3), READY);
        told("out with two digits", plan, READY, 2, 0, -1, 0, -1, 2, 0);
        plan.hang();
        plan.lift();
        CHECK.same("pass(15)", plan.pass(15), LOST);
        told("out with none", plan, LOST, 0, 0, -1, -1, -1, 2, -1);
        plan.hang();
        plan.lift();
        plan.press(1);
        CHECK.same("pass(99)", plan.pass(99), LOST);
        told("out with one", plan, LOST, 1, 0, -1, -1, -1, 2, -1);
        plan.hang();
        plan.lift();
        Check.dial(plan, "123");
        CHECK.same("pass(99)", plan.pass(99), READY);
        told("out with three", plan, READY, 3, 0, -1, 1, -1, 2, 1);
        CHECK.same("ready", plan.count(7), 2);
        CHECK.same("lost", plan.count(8), 2);
    }

    private static void stagesWhileWaiting() {
        DialPlan plan = lifted("12=a:0", "123=b:0");
        CHECK.same("stage(0, 3) while UP", plan.stage(0, 3), 15);
        CHECK.same("left as told before", plan.line(2), 15);
        plan.stage(1, 20);
        plan.press(1);
        CHECK.same("told anew", plan.line(2), 20);
        plan.stage(1, 2);
        plan.stage(2, 99);
        CHECK.same("left as told before", plan.line(2), 20);
        plan.press(2);
        CHECK.same("told anew", plan.line(2), 99);
        CHECK.same("pass(98)", plan.pass(98), WAITING);
        CHECK.same("pass(1)", plan.pass(1), READY);
        plan.hang();
        CHECK.same("lift()", plan.lift(), 3);
        CHECK.same("pass(3)", plan.pass(3), LOST);
    }

    private static void passRefusals() {
        DialPlan plan = Check.planOf("12=a:0");
        int[] wrong = {0, 100, -1, Integer.MIN_VALUE, Integer.MAX_VALUE};
        for (int w : wrong) {
            CHECK.same("pass(" + w + ") while DOWN", plan.pass(w), DialPlan.OUTSIDE);
        }
        CHECK.same("pass(1) while DOWN", plan.pass(1), DialPlan.STATE);
        plan.lift();
        for (int w : wrong) {
            CHECK.same("pass(" + w + ")", plan.pass(w), DialPlan.OUTSIDE);
        }
        CHECK.same("left after refusals", plan.line(2), 15);
        plan.end();
        CHECK.same("pass(1) while LOST", plan.pass(1), DialPlan.STATE);
        plan.hang();
        plan.lift();
        Check.dial(plan, "12");
        CHECK.same("pass(1) while READY", plan.pass(1), DialPlan.STATE);
    }

    private static void endsByHand() {
        DialPlan plan = Check.planOf("12=a:0", "1234=b:0", "X2=c:0");
        CHECK.same("end() while DOWN", plan.end(), DialPlan.STATE);
        plan.lift();
        CHECK.same("end() with no digits", plan.end(), LOST);
        told("none", plan, LOST, 0, 0, -1, -1, -1, 3, -1);
        CHECK.same("end() while LOST", plan.end(), DialPlan.STATE);
        plan.hang();
        plan.lift();
        plan.press(1);
        CHECK.same("end() with one", plan.end(), LOST);
        plan.hang();
        plan.lift();
        Check.dial(plan, "12");
        CHECK.same("end() with two", plan.end(), READY);
        told("two", plan, READY, 2, 0, -1, 0, -1, 3, 0);
        CHECK.same("end() while READY", plan.end(), DialPlan.STATE);
        CHECK.same("ready", plan.count(7), 1);
        CHECK.same("lost", plan.count(8), 2);
    }

    private static void wayInTheEnd() {
        DialPlan again = lifted("9X=*:15", "5X=b:0", "59=c:0");
        Check.dial(again, "91");
        told("again", again, READY, 2, 0, -1, 0, 1, 1, 1);
        toldDigits("again", again, "91");
        DialPlan fails = lifted("9X=*:15", "5X=*:0");
        Check.dial(fails, "91");
        told("read too often", fails, READY, 2, 0, -1, 0, 1, 1, -1);
        DialPlan empty = lifted("1=a:1");
        empty.press(1);
        told("rewritten to nothing", empty, READY, 1, 0, -1, 0, 0, 1, -1);
        DialPlan help = lifted("7=*:11", "1=!:0");
        help.press(7);
        told("read to help", help, READY, 1, 0, -1, 0, 1, 1, 9);
        DialPlan barred = lifted("1=-:0");
        barred.press(1);
        told("barred", barred, READY, 1, 0, -1, 0, 0, 1, 8);
        DialPlan lost = lifted("1=a:0", "12=b:0");
        Check.dial(lost, "13");
        told("lost", lost, LOST, 2, 0, -1, -1, -1, 1, -1);
    }

    private static void sure(String digits, int due, String... patterns) {
        DialPlan plan = lifted(patterns);
        Check.dial(plan, digits);
        CHECK.same("SURE of " + digits, plan.line(5), due);
    }

    private static void sureness() {
        CHECK.same("SURE while DOWN", Check.planOf("1=a:0", "2=a:0").line(5), 0);
        CHECK.same("SURE while DOWN", Check.planOf("1=a:0", "2=b:0").line(5), DialPlan.NONE);
        CHECK.same("SURE of no patterns", new DialPlan().line(5), DialPlan.NONE);
        sure("", DialPlan.NONE);
        sure("", 0, "12=a:0");
        sure("9", 0, "12=a:0");
        sure("", DialPlan.NONE, "12=a:0", "13=b:0");
        sure("1", DialPlan.NONE, "12=a:0", "13=b:0");
        sure("12", 2, "12=a:0", "13=b:0");
        sure("14", DialPlan.NONE, "12=a:0", "13=b:0");
        sure("1", DialPlan.NONE, "12=a:0", "13=a:1");
        sure("1", DialPlan.NONE, "12=a:0", "13=a:00");
        sure("1", 0, "12=a:01", "13=a:01");
        sure("12", 1, "12=a:0", "13=a:0", "23=b:0");
        sure("12", DialPlan.NONE, "1.=a:0", "12=b:0");
        sure("123", 3, "1.=a:0", "12=b:0");
        sure("1234567890", DialPlan.NONE, "1.=a:0", "12345678.=b:0");
        sure("1234567990", 8, "1.=a:0", "12345678.=b:0");
        sure("13", 2, "1.=a:0", "12345678=a:1");
        sure("123456789", 9, "1.=a:0", "12345678=a:1");
        sure("9", DialPlan.NONE, "12=a:0", "13=b:0");
    }

    private static void lineRefusals() {
        DialPlan plan = Check.planOf("1=a:0");
        int[] wrong = {-1, 8, 9, 20, Integer.MIN_VALUE, Integer.MAX_VALUE};
        for (int w : wrong) {
            CHECK.same("line(" + w + ")", plan.line(w), DialPlan.OUTSIDE);
        }
        plan.lift();
        for (int w : wrong) {
            CHECK.same("line(" + w + ") while UP", plan.line(w), DialPlan.OUTSIDE);
        }
    }
}
