import java.util.Random;

/** No call throws or fails to end, for any arguments in any state, nor behind the 512th call, where the answers are free. */
public final class NeverThrowsTest {
    private static final Check CHECK = new Check();
    private static final int OBJECTS = 40, CALLS = 5000, KINDS = 20;
    private static final String LIKELY = "0123456789[]-.NX=:abh*! ~";

    private final Random random;
    private final DialPlan plan = new DialPlan();

    private NeverThrowsTest(int seed) {
        random = new Random(seed);
    }

    public static void main(String[] args) {
        for (int seed = 1; seed <= OBJECTS; seed++) {
            NeverThrowsTest run = new NeverThrowsTest(seed);
            for (int call = 1; call <= CALLS; call++) {
                run.callSafely("object " + seed + ", call " + call);
            }
        }
        CHECK.finish();
    }

    private void callSafely(String when) {
        int kind = random.nextInt(KINDS + 4);
        boolean holds = false;
        try {
            call(kind);
            holds = true;
        } catch (RuntimeException | StackOverflowError e) {
            System.out.println(when + " threw " + e);
        }
        CHECK.holds(when + " of kind " + kind + " did not throw", holds);
    }

    /** Mostly what is told or just beyond, at times any number at all. */
    private int number(int bound) {
        switch (random.nextInt(8)) {
            case 0: return random.nextInt();
            case 1: return random.nextBoolean() ? Integer.MIN_VALUE : Integer.MAX_VALUE;
            default: return random.nextInt(bound + 2) - 1;
        }
    }

    private void write() {
        plan.blank();
        String[] texts = {"X=*:0", "1X.=*:01", "9.=!:1", "12=a:2", "XX=b:09999", "[0-9].=*:11", "5", "1234567890", "12345678901"};
        Check.write(plan, texts[random.nextInt(texts.length)]);
    }

    private void call(int kind) {
        switch (kind) {
            case 0: plan.letter(number(127)); break;
            case 1: plan.letter(LIKELY.charAt(random.nextInt(LIKELY.length()))); break;
            case 2: plan.blank(); break;
            case 3: plan.fault(); break;
            case 4: plan.add(); break;
            case 5: plan.drop(number(100)); break;
            case 6: plan.pattern(number(10), number(6)); break;
            case 7: plan.lets(number(10), number(10)); break;
            case 8: plan.narrower(number(10), number(10)); break;
            case 9: plan.clash(number(45)); break;
            case 10: plan.row(number(20)); break;
            case 11: plan.stage(number(3), number(100)); break;
            case 12: plan.lift(); break;
            case 13: plan.hang(); break;
            case 14: plan.press(number(10)); break;
            case 15: plan.pass(number(100)); break;
            case 16: plan.end(); break;
            case 17: plan.line(number(20)); break;
            case 18: plan.count(number(10)); break;
            case 19: plan.digest(); break;
            case 20: write(); break;
            case 21: write(); plan.add(); break;
            default: plan.press(random.nextInt(10)); break;
        }
    }
}
