import java.math.BigInteger;
import java.util.ArrayList;
import java.util.List;

/** Compares answers with those that are due, and says at the end whether all were. */
final class Check {
    private int wrong = 0;
    private int asked = 0;
    private String sentence = "";

    /** The document's sentence that is tested from here on; it is told with each wrong answer. */
    void about(String words) {
        sentence = "\"" + words + "\": ";
    }

    void same(String what, long got, long due) {
        asked++;
        if (got != due) {
            wrong++;
            System.out.println(sentence + what + " answered " + got + ", due is " + due);
        }
    }

    void holds(String what, boolean is) {
        same(what, is ? 1 : 0, 1);
    }

    /** Ends the program with exit code 1 if some answer was wrong. */
    void finish() {
        System.out.println(wrong == 0 ? "all " + asked + " answers are as due" : wrong + " of " + asked + " answers are not as due");
        if (wrong != 0) {
            System.exit(1);
        }
    }

    /** Puts the text on the page. */
    static void write(DialPlan plan, String text) {
        for (int i = 0; i < text.length(); i++) {
            plan.letter(text.charAt(i));
        }
    }

    /** Puts the text alone on the page and adds it. */
    static int add(DialPlan plan, String text) {
        plan.blank();
        write(plan, text);
        return plan.add();
    }

    static DialPlan planOf(String... patterns) {
        DialPlan plan = new DialPlan();
        for (String pattern : patterns) {
            add(plan, pattern);
        }
        return plan;
    }

    /** Puts the digits alone on the page and asks what row() tells of them. */
    static int row(DialPlan plan, String digits, int what) {
        plan.blank();
        write(plan, digits);
        return plan.row(what);
    }

    /** Presses the digits, one by one: what the last press answered. */
    static int dial(DialPlan plan, String digits) {
        int answer = plan.line(0);
        for (int i = 0; i < digits.length(); i++) {
            answer = plan.press(digits.charAt(i) - '0');
        }
        return answer;
    }

    /** The line of a plan of these patterns (a blank between them), lifted and the digits pressed. */
    static DialPlan dialled(String patterns, String digits) {
        DialPlan plan = planOf(patterns.split(" "));
        plan.lift();
        dial(plan, digits);
        return plan;
    }

    /** The digest by the document's words, of what the other calls tell; cut to a long only in the end, so that it is seen to wrap. */
    static long digestOf(DialPlan plan, String page) {
        List<Integer> numbers = new ArrayList<>();
        int patterns = plan.count(0);
        int pairs = plan.count(2);
        for (int number = 0; number < patterns; number++) {
            for (int what = 0; what <= 5; what++) {
                numbers.add(plan.pattern(number, what));
            }
            for (int place = 0; place <= 9; place++) {
                numbers.add(plan.lets(number, place));
            }
        }
        for (int place = 0; place < pairs; place++) {
            numbers.add(plan.clash(place));
        }
        for (int what = 0; what <= 19; what++) {
            if (what != 8 && what != 9) {
                numbers.add(plan.line(what));
            }
        }
        for (char letter : page.toCharArray()) {
            numbers.add((int) letter);
        }
        for (int what = 0; what <= 9; what++) {
            numbers.add(plan.count(what));
        }
        BigInteger h = BigInteger.valueOf(1669);
        for (int number : numbers) {
            h = h.multiply(BigInteger.valueOf(31)).add(BigInteger.valueOf(number));
        }
        return h.longValue();
    }
}
