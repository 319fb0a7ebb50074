/** Promises 1 to 4: a new object, letter, blank, fault. */
public final class PageTest {
    private static final Check CHECK = new Check();

    public static void main(String[] args) {
        newObject();
        letters();
        blanks();
        faultsByPlace();
        faultsInWholeTexts();
        CHECK.finish();
    }

    private static void newObject() {
        DialPlan plan = new DialPlan();
        int[] counts = {0, 0, 0, 15, 8, 4, 0, 0, 0, 0};
        for (int what = 0; what < counts.length; what++) {
            CHECK.same("new: count(" + what + ")", plan.count(what), counts[what]);
        }
        int[] line = {0, 0, 0, DialPlan.NONE, DialPlan.NONE, DialPlan.NONE, 0, DialPlan.NONE};
        for (int what = 0; what < line.length; what++) {
            CHECK.same("new: line(" + what + ")", plan.line(what), line[what]);
        }
        CHECK.same("new: pattern(0, 0)", plan.pattern(0, 0), DialPlan.UNKNOWN);
        CHECK.same("new: fault()", plan.fault(), 0);
        CHECK.same("new: blank()", plan.blank(), 0);
    }

    private static void letters() {
        DialPlan plan = new DialPlan();
        int[] wrong = {31, 127, 0, -1, 256 + 48, Integer.MIN_VALUE, Integer.MAX_VALUE};
        for (int code : wrong) {
            CHECK.same("letter(" + code + ")", plan.letter(code), DialPlan.OUTSIDE);
        }
        CHECK.same("letters after refusals", plan.count(1), 0);
        CHECK.same("letter(32)", plan.letter(32), 1);
        CHECK.same("letter(126)", plan.letter(126), 2);
        for (int i = 3; i <= 52; i++) {
            CHECK.same("letter " + i, plan.letter('X'), i);
        }
        CHECK.same("letter 53", plan.letter('X'), DialPlan.FULL);
        CHECK.same("letter 53 that is none", plan.letter(127), DialPlan.OUTSIDE);
        CHECK.same("letters of a full page", plan.count(1), 52);
    }

    private static void blanks() {
        DialPlan plan = new DialPlan();
        Check.write(plan, "1234567");
        CHECK.same("blank()", plan.blank(), 7);
        CHECK.same("letters after blank()", plan.count(1), 0);
        CHECK.same("blank() again", plan.blank(), 0);
        CHECK.same("letter after blank()", plan.letter('9'), 1);
        CHECK.same("row of what came after blank()", plan.row(10), DialPlan.NONE);
        Check.add(plan, "X=a:0");
        CHECK.same("row of one digit", Check.row(plan, "9", 10), 9);
        plan.lift();
        CHECK.same("blank() while UP", plan.blank(), 1);
    }

    private static void fault(String text, int due) {
        DialPlan plan = new DialPlan();
        Check.write(plan, text);
        CHECK.same("fault() of " + text, plan.fault(), due);
        CHECK.same("letters after fault() of " + text, plan.count(1), text.length());
        CHECK.same("fault() again of " + text, plan.fault(), due);
    }

    /** Behind each beginning, just these signs may follow. */
    private static void follows(String start, String signs) {
        for (char sign = 32; sign <= 126; sign++) {
            boolean may = signs.indexOf(sign) >= 0;
            fault(start + sign, may ? start.length() + 1 : start.length());
        }
    }

    private static void faultsByPlace() {
        String figures = "0123456789";
        follows("", figures + "[NX");
        follows("1", figures + "[NX.=");
        follows("NX[0-9]", figures + "[NX.=");
        follows("1234567", figures + "[NX.=");
        follows("12345678", ".=");
        follows("[0-1][1-2][2-3][3-4][4-5][5-6][6-7][7-8]", ".=");
        follows("[", "012345678");
        follows("12[", "012345678");
        follows("[0", "-");
        follows("[0-", "123456789");
        follows("[5-", "6789");
        follows("[8-", "9");
        follows("[5-7", "]");
        follows("X.", "=");
        follows("X=", "abcdefgh-!*");
        follows("X.=", "abcdefgh-!*");
        follows("X=a", ":");
        follows("X=-", ":");
        follows("X=!", ":");
        follows("X=*", ":");
        follows("X=a:", "01");
        follows("XX[1-3]=a:", "0123");
        follows("XXXXXXXX.=a:", "012345678");
        follows("X=a:0", figures);
        follows("X=a:0000", figures);
        follows("X=a:01234", "");
    }

    private static void faultsInWholeTexts() {
        fault("", 0);
        fault("[0-9][0-9][0-9][0-9][0-9][0-9][0-9][0-9].=h:81234", 49);
        fault("[0-9][0-9][0-9][0-9][0-9][0-9][0-9][0-9].=h:812345", 49);
        fault(" 1=a:0", 0);
        fault("1==a:0", 2);
        fault("[9-1]X", 1);
        fault("[3-2]X", 3);
        fault("..=a", 0);
    }
}
