/** Promises 19 and 20: count, digest. */
public final class TotalsTest {
    private static final Check CHECK = new Check();

    public static void main(String[] args) {
        counts();
        countRefusals();
        digestOfNew();
        digestAsTold();
        digestWraps();
        CHECK.finish();
    }

    private static void counts() {
        DialPlan plan = Check.planOf("1=a:0", "1=b:0", "12.=c:0");
        Check.write(plan, "hello");
        plan.stage(0, 10);
        plan.stage(1, 11);
        plan.stage(2, 12);
        plan.lift();
        Check.dial(plan, "12");
        plan.end();
        plan.hang();
        plan.lift();
        Check.dial(plan, "3");
        plan.hang();
        plan.lift();
        Check.dial(plan, "13");
        plan.hang();
        plan.lift();
        plan.press(1);
        plan.hang();
        int[] due = {3, 5, 1, 10, 11, 12, 4, 1, 2, 6};
        for (int what = 0; what < due.length; what++) {
            CHECK.same("count(" + what + ")", plan.count(what), due[what]);
        }
    }

    private static void countRefusals() {
        DialPlan plan = new DialPlan();
        int[] wrong = {-1, 10, 11, Integer.MIN_VALUE, Integer.MAX_VALUE};
        for (int w : wrong) {
            CHECK.same("count(" + w + ")", plan.count(w), DialPlan.OUTSIDE);
        }
    }

    private static void digestOfNew() {
        long h = 1669;
        int[] line = {0, 0, 0, -1, -1, -1, 0, -1, -1, -1, -1, -1, -1, -1, -1, -1, -1, -1};
        for (int it : line) {
            h = 31 * h + it;
        }
        int[] count = {0, 0, 0, 15, 8, 4, 0, 0, 0, 0};
        for (int it : count) {
            h = 31 * h + it;
        }
        CHECK.same("digest() of a new object", new DialPlan().digest(), h);
    }

    private static DialPlan clashing(String page, String digits) {
        DialPlan plan = Check.planOf("1X=a:0", "[1-2][3-5]=a:0", "[2-3][4-6]=b:177", "1X=!:2", "1X.=*:10");
        Check.write(plan, page);
        plan.lift();
        Check.dial(plan, digits);
        return plan;
    }

    private static void digest(String when, DialPlan plan, String page) {
        CHECK.same("digest() " + when, plan.digest(), Check.digestOf(plan, page));
    }

    private static void digestAsTold() {
        DialPlan plan = Check.planOf("1X=a:0", "[1-2][3-5]=a:0", "[2-3][4-6]=b:177");
        CHECK.same("clashes", plan.count(2), 1);
        digest("of patterns", plan, "");
        String page = "1X ~=";
        digest("of a lifted line", clashing("", ""), "");
        digest("with a page", clashing(page, ""), page);
        digest("of digits", clashing(page, "24"), page);
        digest("of help", clashing(page, "13"), page);
        DialPlan hung = clashing(page, "24");
        hung.hang();
        digest("after hang()", hung, page);
        CHECK.same("digest() again", hung.digest(), hung.digest());
    }

    private static void digestWraps() {
        DialPlan plan = new DialPlan();
        String page = "~".repeat(52);
        Check.write(plan, page);
        digest("of a full page", plan, page);
    }
}
