/** Promises 5 to 10: add, drop, pattern, lets, narrower, clash. */
public final class PlanTest {
    private static final Check CHECK = new Check();

    public static void main(String[] args) {
        addsWhole();
        addRefusals();
        drops();
        addsAfterDrop();
        dropRefusals();
        tellsOfPatterns();
        letsDigits();
        narrowness();
        clashes();
        clashesByOutcome();
        CHECK.finish();
    }

    private static void addsWhole() {
        DialPlan plan = new DialPlan();
        for (int i = 0; i < 10; i++) {
            CHECK.same("add() " + i, Check.add(plan, "X=a:" + (i % 2)), i);
            CHECK.same("letters after add()", plan.count(1), 0);
            CHECK.same("patterns after add()", plan.count(0), i + 1);
        }
        long before = fullPage(plan, "1=a:0").digest();
        CHECK.same("add() to ten", plan.add(), DialPlan.FULL);
        CHECK.same("digest after FULL", plan.digest(), before);
        fullPage(plan, "1=a:").digest();
        CHECK.same("add() of none to ten", plan.add(), DialPlan.STATE);
        plan.lift();
        fullPage(plan, "1=a:0");
        CHECK.same("add() to ten while UP", plan.add(), DialPlan.STATE);
        plan.hang();
        plan.drop(9);
        CHECK.same("add() after drop()", plan.add(), 9);
    }

    private static DialPlan fullPage(DialPlan plan, String text) {
        plan.blank();
        Check.write(plan, text);
        return plan;
    }

    private static void addRefusals() {
        String[] none = {"", "1", "1.", "1=", "1=a", "1=a:", "1=a:2", "=a:0", ".=a:0", "X=i:0", "X=A:0", "x=a:0", "n=a:0",
            "[1-1]=a:0", "[2-1]=a:0", "[9-9]=a:0", "[1-2=a:0", "[12]=a:0", "X..=a:0", "X.X=a:0", "XXXXXXXXX=a:0",
            "X=a:012345", "X=a:0N", "X=a:0 ", " X=a:0", "X=aa:0", "X=a0", "123"};
        for (String text : none) {
            DialPlan plan = Check.planOf("9=a:0");
            Check.write(plan, text);
            long before = plan.digest();
            CHECK.same("add() of " + text, plan.add(), DialPlan.STATE);
            CHECK.same("digest after add() of " + text, plan.digest(), before);
        }
        DialPlan plan = new DialPlan();
        plan.lift();
        Check.write(plan, "X=a:0");
        long before = plan.digest();
        CHECK.same("add() while WAITING", plan.add(), DialPlan.STATE);
        CHECK.same("digest after add() while WAITING", plan.digest(), before);
        plan.end();
        CHECK.same("add() while LOST", plan.add(), DialPlan.STATE);
        plan.hang();
        CHECK.same("add() while DOWN", plan.add(), 0);
    }

    private static void drops() {
        DialPlan plan = Check.planOf("0=a:0", "1=b:0", "2=c:0", "3=d:0");
        Check.write(plan, "7");
        CHECK.same("drop(1)", plan.drop(1), 3);
        CHECK.same("letters after drop()", plan.count(1), 1);
        int[] ways = {0, 2, 3};
        for (int i = 0; i < ways.length; i++) {
            CHECK.same("way of " + i + " after drop()", plan.pattern(i, 2), ways[i]);
            CHECK.same("lets of " + i + " after drop()", plan.lets(i, 0), 1 << ways[i]);
        }
        CHECK.same("pattern(3) after drop()", plan.pattern(3, 2), DialPlan.UNKNOWN);
        CHECK.same("drop(2)", plan.drop(2), 2);
        CHECK.same("add() after drop()", Check.add(plan, "[4-6]N=h:1"), 2);
        CHECK.same("way of the new one", plan.pattern(2, 2), 7);
        CHECK.same("way of one that stayed", plan.pattern(1, 2), 2);
        CHECK.same("drop(0)", plan.drop(0), 2);
        CHECK.same("drop(0)", plan.drop(0), 1);
        CHECK.same("lets of the last one", plan.lets(0, 0), 16 + 32 + 64);
        CHECK.same("drop(0)", plan.drop(0), 0);
        CHECK.same("drop(0) of none", plan.drop(0), DialPlan.UNKNOWN);
    }

    private static void addsAfterDrop() {
        DialPlan plan = Check.planOf("0=a:0", "1=b:0", "2=c:0", "3=d:0");
        plan.drop(0);
        Check.add(plan, "4=e:0");
        for (int i = 0; i < 4; i++) {
            CHECK.same("way of " + i + " after drop() and add()", plan.pattern(i, 2), i + 1);
            CHECK.same("lets of " + i + " after drop() and add()", plan.lets(i, 0), 2 << i);
        }
    }

    private static void dropRefusals() {
        DialPlan plan = Check.planOf("0=a:0", "1=b:0");
        int[] wrong = {-1, 2, 10, Integer.MIN_VALUE, Integer.MAX_VALUE};
        long before = plan.digest();
        for (int number : wrong) {
            CHECK.same("drop(" + number + ")", plan.drop(number), DialPlan.UNKNOWN);
        }
        CHECK.same("digest after refusals", plan.digest(), before);
        plan.lift();
        CHECK.same("drop(0) while UP", plan.drop(0), DialPlan.STATE);
        CHECK.same("drop(2) while UP", plan.drop(2), DialPlan.UNKNOWN);
        CHECK.same("patterns", plan.count(0), 2);
    }

    private static void tells(String text, int... due) {
        DialPlan plan = Check.planOf("5=e:1", text);
        for (int what = 0; what < due.length; what++) {
            CHECK.same("pattern(1, " + what + ") of " + text, plan.pattern(1, what), due[what]);
        }
    }

    private static void tellsOfPatterns() {
        tells("1=a:0", 1, 0, 0, 0, 0, 0);
        tells("1.=h:10", 1, 1, 7, 1, 1, 0);
        tells("NX[3-5]=-:30012", 3, 0, 8, 3, 4, 12);
        tells("12345678.=!:89999", 8, 1, 9, 8, 4, 9999);
        tells("12345678=*:0000", 8, 0, 10, 0, 3, 0);
        tells("XX=c:2407", 2, 0, 2, 2, 3, 407);
        DialPlan plan = Check.planOf("1=a:0");
        int[] wrong = {-1, 6, 10, Integer.MIN_VALUE, Integer.MAX_VALUE};
        for (int w : wrong) {
            CHECK.same("pattern(0, " + w + ")", plan.pattern(0, w), DialPlan.OUTSIDE);
            CHECK.same("pattern(1, " + w + ")", plan.pattern(1, w), DialPlan.UNKNOWN);
            CHECK.same("pattern(" + w + ", 0)", plan.pattern(w, 0), DialPlan.UNKNOWN);
        }
        plan.lift();
        CHECK.same("pattern(0, 0) while UP", plan.pattern(0, 0), 1);
    }

    private static void letsDigits() {
        DialPlan plan = Check.planOf("7N.=a:0", "0[0-9][3-4]NX9=a:0", "12345678.=b:0", "12345678=b:0");
        int[][] due = {
            {128, 1020, 1023, 1023, 1023, 1023, 1023, 1023, 1023, 1023},
            {1, 1023, 24, 1020, 1023, 512, 0, 0, 0, 0},
            {2, 4, 8, 16, 32, 64, 128, 256, 1023, 1023},
            {2, 4, 8, 16, 32, 64, 128, 256, 0, 0}};
        for (int i = 0; i < due.length; i++) {
            for (int place = 0; place < 10; place++) {
                CHECK.same("lets(" + i + ", " + place + ")", plan.lets(i, place), due[i][place]);
            }
        }
        int[] wrong = {-1, 10, Integer.MIN_VALUE, Integer.MAX_VALUE};
        for (int w : wrong) {
            CHECK.same("lets(0, " + w + ")", plan.lets(0, w), DialPlan.OUTSIDE);
            CHECK.same("lets(4, " + w + ")", plan.lets(4, w), DialPlan.UNKNOWN);
            CHECK.same("lets(" + w + ", 0)", plan.lets(w, 0), DialPlan.UNKNOWN);
        }
        plan.drop(1);
        plan.drop(0);
        Check.add(plan, "1=a:0");
        CHECK.same("an old object used again lets none behind", plan.lets(2, 1), 0);
        CHECK.same("an old object used again is not open", plan.pattern(2, 1), 0);
    }

    private static void narrower(String one, String other, int due) {
        DialPlan plan = Check.planOf(one + "=a:0", other + "=b:0");
        int turned = due == 2 ? 2 : 1 - due;
        CHECK.same("narrower of " + one + " and " + other, plan.narrower(0, 1), due);
        CHECK.same("narrower of " + other + " and " + one, plan.narrower(1, 0), turned);
        CHECK.same("narrower of " + one + " and itself", plan.narrower(0, 0), 2);
    }

    private static void narrowness() {
        narrower("1", "X", 0);
        narrower("1", "9", 2);
        narrower("N", "X", 0);
        narrower("[0-7]", "N", 2);
        narrower("[0-8]", "N", 1);
        narrower("1X", "N1", 0);
        narrower("1", "12", 0);
        narrower("1", "1.", 0);
        narrower("1X", "1.", 0);
        narrower("1X.", "1.", 0);
        narrower("12345678", "12345678.", 0);
        narrower("XXXXXXXX.", "XXXXXXXX", 1);
        narrower("1.", "2.", 2);
        narrower("1.", "12.", 1);
        narrower("X1", "XN", 0);
        narrower("12[3-4]", "123", 1);
        DialPlan plan = Check.planOf("1=a:0", "2=a:0");
        int[] wrong = {-1, 2, Integer.MIN_VALUE, Integer.MAX_VALUE};
        for (int w : wrong) {
            CHECK.same("narrower(0, " + w + ")", plan.narrower(0, w), DialPlan.UNKNOWN);
            CHECK.same("narrower(" + w + ", 1)", plan.narrower(w, 1), DialPlan.UNKNOWN);
        }
    }

    private static void clashes() {
        DialPlan plan = Check.planOf("1X=a:0", "[1-2][3-4]=a:0", "[2-3][4-5]=b:0", "2X=a:0", "1X=b:0", "1X=a:0", "1X.=b:0",
            "[2-3][4-5]=b:0", "[3-4][3-4]=c:0", "1X=a:00");
        int[] due = {4, 9, 16 + 2, 16 + 7, 2 * 16 + 8, 4 * 16 + 5, 4 * 16 + 9, 5 * 16 + 9, 7 * 16 + 8};
        for (int i = 0; i < due.length; i++) {
            CHECK.same("clash(" + i + ")", plan.clash(i), due[i]);
        }
        CHECK.same("pairs that clash", plan.count(2), due.length);
        int[] wrong = {-1, due.length, due.length + 1, 45, Integer.MIN_VALUE, Integer.MAX_VALUE};
        for (int w : wrong) {
            CHECK.same("clash(" + w + ")", plan.clash(w), DialPlan.UNKNOWN);
        }
        CHECK.same("clash(0) of none", new DialPlan().clash(0), DialPlan.UNKNOWN);
        DialPlan all = new DialPlan();
        for (int i = 0; i < 10; i++) {
            Check.add(all, "X.=a:0" + i);
        }
        CHECK.same("all pairs clash", all.count(2), 45);
        CHECK.same("the last pair", all.clash(44), 8 * 16 + 9);
        CHECK.same("no pair behind it", all.clash(45), DialPlan.UNKNOWN);
    }

    private static void clashing(String one, String other, boolean due) {
        DialPlan plan = Check.planOf(one, other);
        CHECK.same("clash of " + one + " and " + other, plan.clash(0), due ? 1 : DialPlan.UNKNOWN);
        CHECK.same("clashes of " + one + " and " + other, plan.count(2), due ? 1 : 0);
    }

    private static void clashesByOutcome() {
        clashing("1=a:0", "1=a:0", false);
        clashing("1=a:0", "1=b:0", true);
        clashing("1=a:0", "1=a:1", true);
        clashing("1=a:0", "1=a:00", true);
        clashing("1=a:01", "1=a:001", true);
        clashing("1=a:012", "1=a:021", true);
        clashing("1=a:012", "1=a:013", true);
        clashing("1=a:01234", "1=a:01235", true);
        clashing("1=a:01234", "1=a:01234", false);
        clashing("1=a:0", "2=b:0", false);
        clashing("1X=a:0", "X1=b:0", false);
        clashing("[0-7]=a:0", "N=b:0", true);
        clashing("[0-1]N=a:0", "[2-3]N=b:0", false);
        clashing("N[0-1]=a:0", "N[2-3]=b:0", false);
        clashing("1.=a:0", "1.=b:0", true);
        clashing("1.=a:0", "1=b:0", false);
        clashing("12345678.=a:0", "12345678.=-:0", true);
        clashing("[0-1]1111111=a:0", "[1-2]1111112=b:0", false);
    }
}
