/** Promises 19 and 20: count, digest. */
public final class TotalsTest {
    private static final Check CHECK = new Check();

    public static void main(String[] args) {
        counts();
        countRefusals();
        digestOfNew();
        digestAsTold();
        digestWraps();
        CHECK.finish();
    }

    private static void counts() {
        DialPlan plan = Check.planOf("1=a:0", "1=b:0", "12.=c:0");
        Check.write(plan, "hello");
        plan.stage(0, 10);
        plan.stage(1, 11);
        plan.stage(2, 12);
        plan.lift();
        Check.dial(plan, "12");
        plan.end();
        plan.hang();
        plan.lift();
        Check.dial(plan, "3");
        plan.hang();
        plan.lift();
        Check.dial(plan, "13");
        plan.hang();
        plan.lift();
        plan.press(1);
        plan.hang();
        int[] due = {3, 5, 1, 10, 11, 12, 4, 1, 2, 6};
        for (int what = 0; what < due.length; what++) {
            CHECK.same("count(" + what + ")", plan.count(what), due[what]);
        }
    }

    private static void countRefusals() {
        DialPlan plan = new DialPlan();
        int[] wrong = {-1, 10, 11, Integer.MIN_VALUE, Integer.MAX_VALUE};
        for (int w : wrong) {
            CHECK.same("count(" + w + ")", plan.count(w), DialPlan.OUTSIDE);
        }
    }

    private static void digestOfNew() {
        long h = 1669;
        int[] line = {0, 0, 0, -1, -1, -1, 0, -1, -1, -1, -1, -1, -1, -1, -1, -1, -1, -1};
        for (int it : line) {
            h = 31 * h + it;
        }
        int[] count = {0, 0, 0, 15, 8, 4, 0, 0, 0, 0};
        for (int it : count) {
            h = 31 * h + it;
        }
        CHECK.same("digest() of a new object", new DialPlan().digest(), h);
    }

    /** The digest by the document's words, of what the other calls tell. */
    private static long digestOf(DialPlan plan, String page) {
        long h = 1669;
        for (int i = 0; i < plan.count(0); i++) {
            for (int what = 0; what <= 5; what++) {
                h = 31 * h + plan.pattern(i, what);
            }
            for (int place = 0; place <= 9; place++) {
                h = 31 * h + plan.lets(i, place);
            }
        }
        for (int i = 0; i < plan.count(2); i++) {
            h = 31 * h + plan.clash(i);
        }
        for (int what = 0; what <= 19; what++) {
            if (what <= 7 || what >= 10) {
                h = 31 * h + plan.line(what);
            }
        }
        for (int i = 0; i < page.length(); i++) {
            h = 31 * h + page.charAt(i);
        }
        for (int what = 0; what <= 9; what++) {
            h = 31 * h + plan.count(what);
        }
        return h;
    }

    private static void digestAsTold() {
        DialPlan plan = Check.planOf("1X=a:0", "[1-2][3-5]=a:0", "[2-3][4-6]=b:177", "1X=!:2", "1X.=*:10");
        CHECK.same("clashes", plan.count(2), 2);
        CHECK.same("digest() of patterns", plan.digest(), digestOf(plan, ""));
        String page = "1X ~=";
        Check.write(plan, page);
        CHECK.same("digest() with a page", plan.digest(), digestOf(plan, page));
        plan.lift();
        CHECK.same("digest() of a lifted line", plan.digest(), digestOf(plan, page));
        Check.dial(plan, "24");
        CHECK.same("digest() of digits", plan.digest(), digestOf(plan, page));
        CHECK.same("digest() again", plan.digest(), plan.digest());
        plan.hang();
        plan.lift();
        Check.dial(plan, "13");
        CHECK.same("digest() of help", plan.digest(), digestOf(plan, page));
    }

    private static void digestWraps() {
        DialPlan plan = new DialPlan();
        StringBuilder page = new StringBuilder();
        for (int i = 0; i < 52; i++) {
            plan.letter('~');
            page.append('~');
        }
        CHECK.same("digest() of a full page", plan.digest(), digestOf(plan, page.toString()));
    }
}
