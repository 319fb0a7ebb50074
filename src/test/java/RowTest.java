/** Promise 11: row. */
public final class RowTest {
    private static final Check CHECK = new Check();

    public static void main(String[] args) {
        refusals();
        changesNothing();
        fitsAndLeads();
        winners();
        rewrites();
        readAgain();
        readSixTimes();
        eachReadIsAnew();
        CHECK.finish();
    }

    /** A new object each time, as none is used for more than 512 calls. */
    private static void tells(String[] patterns, String digits, int what, int due) {
        CHECK.same("row(" + what + ") of " + digits, Check.row(Check.planOf(patterns), digits, what), due);
    }

    private static void refusals() {
        String[] plan = {"X.=a:0"};
        int[] wrong = {-1, 6, 7, 8, 9, 20, Integer.MIN_VALUE, Integer.MAX_VALUE};
        for (int what : wrong) {
            tells(plan, "1", what, DialPlan.OUTSIDE);
            tells(plan, "", what, DialPlan.OUTSIDE);
        }
        String[] none = {"", "12345678901", "1 2", "X", "12a", "-1", "1.", "/", ":", "12345678901234567890"};
        for (String text : none) {
            for (int what = 0; what <= 5; what++) {
                tells(plan, text, what, DialPlan.STATE);
            }
            tells(plan, text, 10, DialPlan.STATE);
            tells(plan, text, 19, DialPlan.STATE);
        }
    }

    private static void changesNothing() {
        DialPlan plan = Check.planOf("X.=a:0");
        Check.write(plan, "12345678901");
        long before = plan.digest();
        plan.row(0);
        plan.row(6);
        CHECK.same("digest after refusals", plan.digest(), before);
        plan.blank();
        Check.write(plan, "0123456789");
        plan.lift();
        long then = plan.digest();
        CHECK.same("row(0) while UP", plan.row(0), 0);
        CHECK.same("row(19) while UP", plan.row(19), 9);
        CHECK.same("digest after row()", plan.digest(), then);
    }

    private static void fitsAndLeads() {
        String[] plan = {"1=a:0", "1X=a:0", "12.=a:0", "N[3-5]X=a:0", "12345678.=a:0", "12345678=a:0", "X.=a:0"};
        String[] rows = {"1", "12", "13", "123", "2", "23", "26", "235", "2355", "1234567", "12345678", "123456789", "1234567890",
            "1244567890", "02"};
        int[] fits = {65, 70, 66, 68, 64, 64, 64, 72, 64, 68, 116, 84, 84, 68, 64};
        int[] leads = {118, 116, 64, 116, 72, 72, 64, 64, 64, 116, 84, 84, 0, 0, 64};
        for (int i = 0; i < rows.length; i++) {
            tells(plan, rows[i], 1, fits[i]);
            tells(plan, rows[i], 2, leads[i]);
        }
        String[] none = {};
        tells(none, "1", 0, DialPlan.NONE);
        tells(none, "1", 1, 0);
        tells(none, "1", 2, 0);
        tells(none, "1", 3, DialPlan.NONE);
        tells(none, "1", 4, 1);
        tells(none, "1", 5, 0);
        tells(none, "1", 10, DialPlan.NONE);
    }

    private static void winners() {
        String[] plan = {"X.=a:0", "1X=b:0", "12.=c:0", "1[2-3]=d:0", "13=e:0", "13=f:0", "XX=!:0"};
        String[] rows = {"1", "11", "12", "13", "14", "22", "123", "222", "1234567890"};
        int[] due = {0, 1, 2, 4, 1, 6, 2, 0, 2};
        for (int i = 0; i < rows.length; i++) {
            tells(plan, rows[i], 0, due[i]);
        }
        DialPlan fewer = Check.planOf(plan);
        fewer.drop(4);
        CHECK.same("row(0) after drop(4)", Check.row(fewer, "13", 0), 4);
        CHECK.same("row(3) after drop(4)", Check.row(fewer, "13", 3), 5);
    }

    private static void ends(String[] plan, String digits, int way, int times, String end) {
        tells(plan, digits, 3, way);
        tells(plan, digits, 4, times);
        tells(plan, digits, 5, end.length());
        for (int place = 0; place < 10; place++) {
            int due = place < end.length() ? end.charAt(place) - '0' : DialPlan.NONE;
            tells(plan, digits, 10 + place, due);
        }
    }

    private static void rewrites() {
        String[] plan = {"1XX.=a:29876", "2.=-:1", "3=b:1", "4X.=!:04567", "5.=h:05", "6XXXXXXX.=c:8", "0=d:00000"};
        ends(plan, "123", 0, 1, "98763");
        ends(plan, "123456", 0, 1, "98763456");
        ends(plan, "12345678", 0, 1, "9876345678");
        ends(plan, "123456789", DialPlan.NONE, 1, "");
        ends(plan, "1234567890", DialPlan.NONE, 1, "");
        ends(plan, "29", 8, 1, "9");
        ends(plan, "2", DialPlan.NONE, 1, "");
        ends(plan, "2123456789", 8, 1, "123456789");
        ends(plan, "3", DialPlan.NONE, 1, "");
        ends(plan, "43", 9, 1, "456743");
        ends(plan, "512345678", 7, 1, "5512345678");
        ends(plan, "5123456789", DialPlan.NONE, 1, "");
        ends(plan, "61234567", DialPlan.NONE, 1, "");
        ends(plan, "612345678", 2, 1, "8");
        ends(plan, "0", 3, 1, "00000");
        ends(plan, "7", DialPlan.NONE, 1, "");
    }

    private static void readAgain() {
        String[] plan = {"9X.=*:1", "8X=*:19", "7=*:0", "1X=a:12", "0.=*:111", "5=*:16", "6=!:1777"};
        ends(plan, "915", 0, 2, "25");
        ends(plan, "9915", 0, 3, "25");
        ends(plan, "81", DialPlan.NONE, 3, "");
        ends(plan, "7", DialPlan.NONE, 6, "");
        ends(plan, "01", DialPlan.NONE, 2, "");
        ends(plan, "5", 9, 2, "777");
        ends(plan, "99", DialPlan.NONE, 2, "");
        ends(plan, "0", 0, 2, "21");
        String[] grows = {"1.=*:01111"};
        ends(grows, "1", DialPlan.NONE, 3, "");
        ends(grows, "11", DialPlan.NONE, 3, "");
        ends(grows, "111", DialPlan.NONE, 2, "");
        ends(grows, "1111111", DialPlan.NONE, 1, "");
    }

    private static void eachReadIsAnew() {
        DialPlan plan = Check.planOf("9X=*:1", "1=c:0");
        CHECK.same("row(3) of 91", Check.row(plan, "91", 3), 2);
        CHECK.same("row(4) of 91", plan.row(4), 2);
        CHECK.same("row(3) of 5", Check.row(plan, "5", 3), DialPlan.NONE);
        CHECK.same("row(4) of 5", plan.row(4), 1);
        CHECK.same("row(3) of 1", Check.row(plan, "1", 3), 2);
        CHECK.same("row(4) of 1", plan.row(4), 1);
        CHECK.same("row(5) of 1", plan.row(5), 1);
    }

    private static void readSixTimes() {
        String[] plan = {"9X.=*:1", "X=b:0"};
        ends(plan, "1", 1, 1, "1");
        ends(plan, "991", 1, 3, "1");
        ends(plan, "999991", 1, 6, "1");
        ends(plan, "9999991", DialPlan.NONE, 6, "");
        ends(plan, "9999999991", DialPlan.NONE, 6, "");
    }
}
