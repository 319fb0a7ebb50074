/** The sentences of "Terms" on the line, its time and what is sure, each that names a boundary with a test of its own. */
public final class LineEdgesTest {
    private static final Check CHECK = new Check();
    private static final int DOWN = 0, WAITING = 1, READY = 2, LOST = 3;
    private static final int BY_DIGIT = 1, BY_TIME = 2, BY_HAND = 3, BY_HELP = 4;

    public static void main(String[] args) {
        downAtFirst();
        liftedWithNoDigits();
        digitsComeBehind();
        helpFirst();
        helpThatDoesNotFit();
        helpThatWins();
        tenDigits();
        digitsThatLeadToNone();
        goesOnWaiting();
        ticksAtFirst();
        stageByDigits();
        ticksToldAnew();
        timeIsOut();
        endedByHand();
        leastNumberOfDigits();
        allThatFitOrLead();
        likeWayDropAndAhead();
        andThereIsOne();
        ofTheDigitsAsTheyAre();
        noDigitsWhileDown();
        CHECK.finish();
    }

    /** How the line is, and how it ended. */
    private static void line(String when, DialPlan plan, int state, int ended) {
        CHECK.same(when + ": line(0)", plan.line(0), state);
        CHECK.same(when + ": line(6)", plan.line(6), ended);
    }

    private static void dials(String patterns, String digits, int state, int ended) {
        line(digits + " by " + patterns, Check.dialled(patterns, digits), state, ended);
    }

    private static void noDigits(String when, DialPlan plan) {
        CHECK.same(when + ": line(1)", plan.line(1), 0);
        for (int what = 10; what <= 19; what++) {
            CHECK.same(when + ": line(" + what + ")", plan.line(what), DialPlan.NONE);
        }
    }

    private static void downAtFirst() {
        CHECK.about("THE LINE is DOWN (at first)");
        DialPlan plan = new DialPlan();
        line("new", plan, DOWN, 0);
        noDigits("new", plan);
        CHECK.same("hang()", plan.hang(), DialPlan.STATE);
        CHECK.same("lift()", plan.lift(), 15);
    }

    private static void liftedWithNoDigits() {
        CHECK.about("When it is lifted it is WAITING with no digits");
        String[] dialled = {"", "1", "12", "1234567890", "3", "4", "44"};
        for (String digits : dialled) {
            DialPlan plan = Check.dialled("12.=a:0 44=!:0", digits);
            plan.hang();
            plan.lift();
            line("lifted again after " + digits, plan, WAITING, 0);
            noDigits("lifted again after " + digits, plan);
            CHECK.same("TICKS", plan.line(2), 15);
            CHECK.same("STAGE", plan.line(3), 0);
            CHECK.same("the PATTERN that WINS", plan.line(4), DialPlan.NONE);
            CHECK.same("WAY", plan.line(7), DialPlan.NONE);
        }
    }

    private static void digitsComeBehind() {
        CHECK.about("When a digit is pressed, it comes behind the others");
        DialPlan plan = Check.dialled("X.=a:0", "");
        String digits = "9081726354";
        for (int many = 1; many <= 10; many++) {
            plan.press(digits.charAt(many - 1) - '0');
            CHECK.same("digits", plan.line(1), many);
            for (int place = 0; place < 10; place++) {
                int due = place < many ? digits.charAt(place) - '0' : DialPlan.NONE;
                CHECK.same("digit at " + place + " of " + many, plan.line(10 + place), due);
            }
        }
    }

    private static void helpFirst() {
        CHECK.about("then: if a PATTERN with WAY HELP FITS, it is READY");
        dials("112=!:0", "112", READY, BY_HELP);
        dials("112=!:0 112X.=a:0", "112", READY, BY_HELP);
        dials("1.=!:0", "1", READY, BY_HELP);
        dials("X=!:0 1=a:0 12=b:0", "1", READY, BY_HELP);
        dials("12345678.=!:0 1.=a:0", "12345678", READY, BY_HELP);
    }

    private static void helpThatDoesNotFit() {
        CHECK.about("if a PATTERN with WAY HELP FITS (one that does not, does nothing)");
        dials("112=!:0", "11", WAITING, 0);
        dials("112=!:0", "113", LOST, BY_DIGIT);
        dials("112=!:0 113=a:0", "113", READY, BY_DIGIT);
        dials("12345678.=!:0 1.=a:0", "1234567", WAITING, 0);
        dials("1=*:12 2=!:0", "1", READY, BY_DIGIT);
        dials("1=-:0 12=a:0", "1", WAITING, 0);
        dials("1=*:0 12=a:0", "1", WAITING, 0);
    }

    private static void winner(String patterns, String digits, int due) {
        CHECK.same("line(4) of " + digits + " by " + patterns, Check.dialled(patterns, digits).line(4), due);
    }

    private static void helpThatWins() {
        CHECK.about("the PATTERN that WINS (of those with WAY HELP alone, if it ended by HELP)");
        winner("1=a:0 X=!:0", "1", 1);
        winner("1=a:0 X=!:0 N=!:0 [0-2]=!:0", "1", 3);
        winner("1=a:0 X=!:0 1=!:0 1=!:1", "1", 2);
        winner("X.=!:0 2=!:0 1=a:0", "1", 0);
        winner("12=!:0 1X=a:0 13=b:0", "13", 2);
        winner("12=!:0 1X=a:0 13=b:0", "14", 1);
        CHECK.same("WAY", Check.dialled("1=a:0 X=!:1", "1").line(7), 9);
    }

    private static void tenDigits() {
        CHECK.about("else, if there are ten digits");
        dials("1.=a:0", "123456789", WAITING, 0);
        dials("1.=a:0", "1234567890", READY, BY_DIGIT);
        dials("12345678.=a:0", "12345678", WAITING, 0);
        dials("12345678.=a:0", "123456789", WAITING, 0);
        dials("12345678.=a:0", "1234567890", READY, BY_DIGIT);
        DialPlan plan = Check.dialled("1.=a:0", "1234567890");
        CHECK.same("an eleventh digit", plan.press(1), DialPlan.STATE);
        CHECK.same("digits", plan.line(1), 10);
    }

    private static void digitsThatLeadToNone() {
        CHECK.about("or the digits LEAD to none, READY, if some FITS, LOST, if none does");
        dials("1=a:0", "1", READY, BY_DIGIT);
        dials("1=a:0", "2", LOST, BY_DIGIT);
        dials("12=a:0 123=b:0", "124", LOST, BY_DIGIT);
        dials("12=a:0 123=b:0", "123", READY, BY_DIGIT);
        dials("12345678=a:0", "12345678", READY, BY_DIGIT);
        dials("12345678=a:0", "12345679", LOST, BY_DIGIT);
        dials("12=a:0 34=a:0", "14", LOST, BY_DIGIT);
        DialPlan none = new DialPlan();
        none.lift();
        CHECK.same("press(0) with no patterns", none.press(0), LOST);
    }

    private static void goesOnWaiting() {
        CHECK.about("else it goes on WAITING");
        dials("12=a:0", "1", WAITING, 0);
        dials("1=a:0 12=a:0", "1", WAITING, 0);
        dials("1.=a:0", "1", WAITING, 0);
        dials("12345678=a:0", "1234567", WAITING, 0);
    }

    private static void ticksAtFirst() {
        CHECK.about("by STAGE: 0 (no digits yet) 15, 1 (digits that FIT none) 8, 2 (some FITS already) 4, at first");
        int[] due = {15, 8, 4};
        String[] digits = {"", "1", "12"};
        for (int stage = 0; stage < 3; stage++) {
            DialPlan plan = Check.dialled("12=a:0 123=a:0", digits[stage]);
            CHECK.same("STAGE", plan.line(3), stage);
            CHECK.same("TICKS", plan.line(2), due[stage]);
            CHECK.same("count()", plan.count(3 + stage), due[stage]);
        }
    }

    private static void stageByDigits() {
        CHECK.about("0 (no digits yet), 1 (digits that FIT none), 2 (some FITS already)");
        String patterns = "1=a:0 1234=b:0 1235.=b:0";
        String[] digits = {"", "1", "12", "123", "1235", "123567890"};
        int[] due = {0, 2, 1, 1, 2, 2};
        for (int i = 0; i < due.length; i++) {
            CHECK.same("STAGE of " + digits[i], Check.dialled(patterns, digits[i]).line(3), due[i]);
        }
        CHECK.same("STAGE while READY", Check.dialled(patterns, "1234").line(3), DialPlan.NONE);
        CHECK.same("STAGE while LOST", Check.dialled(patterns, "2").line(3), DialPlan.NONE);
        CHECK.same("STAGE while DOWN", Check.planOf("1=a:0").line(3), DialPlan.NONE);
    }

    private static void ticksToldAnew() {
        CHECK.about("TIME that is left is told anew then, in TICKS, by STAGE");
        DialPlan plan = Check.dialled("1=a:0 1234=b:0 1234X.=c:0", "");
        String digits = "1234567";
        int[] left = {4, 8, 8, 4, 4, 4, 4};
        plan.pass(14);
        for (int i = 0; i < left.length; i++) {
            plan.press(digits.charAt(i) - '0');
            CHECK.same("TICKS with digit " + i, plan.line(2), left[i]);
            CHECK.same("pass() of all but one", plan.pass(left[i] - 1), WAITING);
            CHECK.same("TICKS", plan.line(2), 1);
        }
        CHECK.same("pass(1)", plan.pass(1), READY);
        CHECK.same("TICKS while READY by a digit", Check.dialled("1=a:0", "1").line(2), 0);
        CHECK.same("TICKS while LOST by a digit", Check.dialled("1=a:0", "2").line(2), 0);
    }

    private static void passes(String digits, int ticks, int state, int ended) {
        DialPlan plan = Check.dialled("12=a:0 123=b:0", digits);
        CHECK.same("pass(" + ticks + ") after " + digits, plan.pass(ticks), state);
        line("pass(" + ticks + ") after " + digits, plan, state, ended);
    }

    private static void timeIsOut() {
        CHECK.about("If TIME is out, it is READY, if some FITS, else LOST");
        passes("", 14, WAITING, 0);
        passes("", 15, LOST, BY_TIME);
        passes("", 16, LOST, BY_TIME);
        passes("1", 7, WAITING, 0);
        passes("1", 8, LOST, BY_TIME);
        passes("1", 9, LOST, BY_TIME);
        passes("12", 3, WAITING, 0);
        passes("12", 4, READY, BY_TIME);
        passes("12", 5, READY, BY_TIME);
        passes("12", 99, READY, BY_TIME);
    }

    private static void ends(String digits, int state) {
        DialPlan plan = Check.dialled("12=a:0 123=b:0", digits);
        CHECK.same("end() after " + digits, plan.end(), state);
        line("end() after " + digits, plan, state, BY_HAND);
        CHECK.same("TICKS", plan.line(2), 0);
    }

    private static void endedByHand() {
        CHECK.about("or it is ended by hand, it is READY, if some FITS, else LOST");
        ends("", LOST);
        ends("1", LOST);
        ends("12", READY);
        DialPlan late = Check.dialled("12=a:0 123=b:0", "12");
        late.pass(3);
        CHECK.same("end() with one tick left", late.end(), READY);
        line("end() with one tick left", late, READY, BY_HAND);
    }

    private static void sure(String patterns, String digits, int due) {
        CHECK.same("SURE of " + digits + " by " + patterns, Check.dialled(patterns, digits).line(5), due);
    }

    private static void leastNumberOfDigits() {
        CHECK.about("SURE: the least number of digits (0, too)");
        sure("123=a:0", "", 0);
        sure("123=a:0", "1", 0);
        sure("123=a:0", "123", 0);
        sure("123=a:0 2=b:0", "", DialPlan.NONE);
        sure("123=a:0 2=b:0", "1", 1);
        sure("123=a:0 2=b:0", "12", 1);
        sure("123=a:0 2=b:0", "123", 1);
        sure("1234567X=a:0 12345670=b:0", "1234567", DialPlan.NONE);
        sure("1234567X=a:0 12345670=b:0", "12345671", 8);
        sure("1.=a:0 12345678=b:0", "123456789", 9);
        sure("1.=a:0 12345678=b:0", "1234567890", 9);
    }

    private static void allThatFitOrLead() {
        CHECK.about("all PATTERNS that so many first digits FIT, or to which they LEAD");
        sure("1=a:0 12=b:0", "1", DialPlan.NONE);
        sure("1=a:0 12=b:0", "12", 2);
        sure("1=a:0 1.=b:0", "1", DialPlan.NONE);
        sure("1=a:0 1.=b:0", "12", 2);
        sure("12=a:0 1X.=b:0", "12", DialPlan.NONE);
        sure("12=a:0 1X.=b:0", "13", 2);
        sure("1.=a:0 X.=b:0", "1234567890", DialPlan.NONE);
    }

    private static void likeWayDropAndAhead() {
        CHECK.about("have like WAY, DROP and AHEAD");
        sure("12=a:0 13=a:0", "", 0);
        sure("12=a:0 13=b:0", "1", DialPlan.NONE);
        sure("12=a:0 13=a:1", "1", DialPlan.NONE);
        sure("12=a:01 13=a:02", "1", DialPlan.NONE);
        sure("12=a:01 13=a:001", "1", DialPlan.NONE);
        sure("12=a:0 13=a:00", "1", DialPlan.NONE);
        sure("12=a:01234 13=a:01234 14=a:01234", "1", 0);
        sure("12=a:01234 13=a:01234 14=a:01235", "1", DialPlan.NONE);
    }

    private static void andThereIsOne() {
        CHECK.about("(and there is one)");
        DialPlan none = new DialPlan();
        CHECK.same("SURE with no patterns", none.line(5), DialPlan.NONE);
        none.lift();
        CHECK.same("SURE with no patterns", none.line(5), DialPlan.NONE);
        none.press(1);
        CHECK.same("SURE with no patterns", none.line(5), DialPlan.NONE);
        sure("1=a:0 2=b:0", "3", DialPlan.NONE);
        sure("12=a:0 13=b:0", "14", DialPlan.NONE);
        sure("12=a:0 2=b:0", "14", 1);
    }

    private static void ofTheDigitsAsTheyAre() {
        CHECK.about("of the digits as they are");
        String patterns = "12=a:0 123=b:0 3=c:0";
        DialPlan plan = Check.dialled(patterns, "12");
        CHECK.same("SURE while WAITING", plan.line(5), DialPlan.NONE);
        plan.end();
        CHECK.same("SURE while READY, ended by hand", plan.line(5), DialPlan.NONE);
        sure(patterns, "123", 3);
        sure(patterns, "124", DialPlan.NONE);
        sure(patterns, "3", 1);
        DialPlan help = Check.dialled("1=!:0 12=a:0", "1");
        CHECK.same("SURE while READY by HELP", help.line(5), DialPlan.NONE);
    }

    private static void noDigitsWhileDown() {
        CHECK.about("(no digits while THE LINE is DOWN)");
        String[] digits = {"1", "12", "13", "2"};
        for (String pressed : digits) {
            DialPlan unlike = Check.dialled("12=a:0 2=b:0", pressed);
            CHECK.same("hang()", unlike.hang(), pressed.length());
            CHECK.same("SURE after " + pressed, unlike.line(5), DialPlan.NONE);
            noDigits("hung after " + pressed, unlike);
            line("hung after " + pressed, unlike, DOWN, 0);
            DialPlan like = Check.dialled("12=a:0 2=a:0", pressed);
            like.hang();
            CHECK.same("SURE after " + pressed, like.line(5), 0);
            Check.add(like, "3=b:0");
            CHECK.same("SURE after one more came", like.line(5), DialPlan.NONE);
            like.drop(2);
            CHECK.same("SURE after it is gone", like.line(5), 0);
        }
    }
}
