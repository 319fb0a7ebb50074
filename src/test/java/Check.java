/** Compares answers with those that are due, and says at the end whether all were. */
final class Check {
    private int wrong = 0;
    private int asked = 0;

    void same(String what, long got, long due) {
        asked++;
        if (got != due) {
            wrong++;
            System.out.println(what + " answered " + got + ", due is " + due);
        }
    }

    void holds(String what, boolean is) {
        same(what, is ? 1 : 0, 1);
    }

    /** Ends the program with exit code 1 if some answer was wrong. */
    void finish() {
        System.out.println(wrong == 0 ? "all " + asked + " answers are as due" : wrong + " of " + asked + " answers are not as due");
        if (wrong != 0) {
            System.exit(1);
        }
    }

    /** Puts the text on the page. */
    static void write(DialPlan plan, String text) {
        for (int i = 0; i < text.length(); i++) {
            plan.letter(text.charAt(i));
        }
    }

    /** Puts the text alone on the page and adds it. */
    static int add(DialPlan plan, String text) {
        plan.blank();
        write(plan, text);
        return plan.add();
    }

    static DialPlan planOf(String... patterns) {
        DialPlan plan = new DialPlan();
        for (String pattern : patterns) {
            add(plan, pattern);
        }
        return plan;
    }

    /** Puts the digits alone on the page and asks what row() tells of them. */
    static int row(DialPlan plan, String digits, int what) {
        plan.blank();
        write(plan, digits);
        return plan.row(what);
    }

    /** Presses the digits, one by one: what the last press answered. */
    static int dial(DialPlan plan, String digits) {
        int answer = plan.line(0);
        for (int i = 0; i < digits.length(); i++) {
            answer = plan.press(digits.charAt(i) - '0');
        }
        return answer;
    }
}
