import java.util.ArrayList;
import java.util.List;
import java.util.Random;

/** Runs of up to 512 calls by seed, each answer compared with that of the model. */
public final class RandomRunsTest {
    private static final Check CHECK = new Check();
    private static final int RUNS = 2000;
    private static final int CALLS = 512;
    private static final int[] EDGES = {-1, 10, 20, 100, Integer.MIN_VALUE, Integer.MAX_VALUE};

    private final Random random;
    private final DialPlan plan = new DialPlan();
    private final Model model = new Model();
    private final String run;
    /** Few figures, so that rows often meet patterns. */
    private final int figures;
    private final List<String> former = new ArrayList<>();
    private int calls = 0;

    private RandomRunsTest(int seed) {
        random = new Random(seed);
        run = "run " + seed + ", call ";
        figures = 1 + random.nextInt(10);
    }

    public static void main(String[] args) {
        for (int seed = 1; seed <= RUNS; seed++) {
            new RandomRunsTest(seed).go();
        }
        CHECK.finish();
    }

    private void same(String call, long got, long due) {
        calls++;
        CHECK.same(run + calls + ": " + call, got, due);
    }

    private void go() {
        for (int many = random.nextInt(13); many > 0; many--) {
            writeAndAdd(patternText());
        }
        while (calls < CALLS - 80) {
            step();
        }
        same("digest()", plan.digest(), model.digest());
    }

    private int some(int bound) {
        return random.nextInt(12) == 0 ? EDGES[random.nextInt(EDGES.length)] : random.nextInt(bound);
    }

    private void step() {
        switch (random.nextInt(12)) {
            case 0: writeAndAdd(patternText()); break;
            case 1: writeAndAdd(spoiled(patternText())); break;
            case 2: askRow(); break;
            case 3: case 4: dial(); break;
            case 5: askPlan(); break;
            case 6: askLine(); break;
            case 7: same("digest()", plan.digest(), model.digest()); break;
            case 8: setStage(); break;
            case 9: dropOne(); break;
            case 10: letTimeGo(); break;
            default: liftOrHang(); break;
        }
    }

    private void write(String text) {
        if (random.nextInt(10) != 0) {
            same("blank()", plan.blank(), model.blank());
        }
        for (char letter : text.toCharArray()) {
            same("letter(" + letter + ")", plan.letter(letter), model.letter(letter));
        }
        if (random.nextInt(20) == 0) {
            int code = random.nextInt(300) - 50;
            same("letter(" + code + ")", plan.letter(code), model.letter(code));
        }
    }

    private void writeAndAdd(String text) {
        if (random.nextInt(3) > 0 && model.line(0) != 0) {
            same("hang()", plan.hang(), model.hang());
        }
        write(text);
        same("fault() of " + text, plan.fault(), model.fault());
        same("add() of " + text, plan.add(), model.add());
    }

    private String figuresText(int most) {
        StringBuilder text = new StringBuilder();
        for (int many = random.nextInt(most + 1); many > 0; many--) {
            text.append(random.nextInt(figures));
        }
        return text.toString();
    }

    /** Digits that lead to a pattern that came before, often all it has, perhaps some more. */
    private String likelyRow() {
        if (former.isEmpty() || random.nextInt(4) == 0) {
            return figuresText(random.nextInt(4) == 0 ? 12 : 4);
        }
        String text = former.get(random.nextInt(former.size()));
        StringBuilder row = new StringBuilder();
        int at = 0;
        while (text.charAt(at) != '.' && text.charAt(at) != '=') {
            boolean isSpan = text.charAt(at) == '[';
            row.append(isSpan ? text.charAt(at + 1 + 2 * random.nextInt(2)) : likelyDigit(text.charAt(at)));
            at += isSpan ? 5 : 1;
        }
        if (random.nextInt(4) == 0) {
            row.setLength(random.nextInt(row.length() + 1));
        }
        return random.nextInt(3) == 0 ? row + figuresText(4) : row.toString();
    }

    private char likelyDigit(char place) {
        switch (place) {
            case 'N': return (char) ('2' + random.nextInt(8));
            case 'X': return (char) ('0' + random.nextInt(figures));
            default: return place;
        }
    }

    private String place() {
        switch (random.nextInt(5)) {
            case 0: return "X";
            case 1: return "N";
            case 2:
                int low = random.nextInt(9);
                return "[" + low + "-" + (low + 1 + random.nextInt(9 - low)) + "]";
            default: return "" + random.nextInt(figures);
        }
    }

    /** Now and then a text that came before, so that patterns are often alike in what they do. */
    private String patternText() {
        if (former.isEmpty() || random.nextInt(3) > 0) {
            former.add(newPatternText());
        }
        return former.get(random.nextInt(former.size()));
    }

    private String newPatternText() {
        StringBuilder text = new StringBuilder();
        int places = random.nextInt(4) == 0 ? 1 + random.nextInt(8) : 1 + random.nextInt(3);
        for (int i = 0; i < places; i++) {
            text.append(place());
        }
        if (random.nextInt(3) == 0) {
            text.append('.');
        }
        String ways = random.nextInt(3) == 0 ? "a" : "ab-!**gh****";
        text.append('=').append(ways.charAt(random.nextInt(ways.length())));
        return text.append(':').append(random.nextInt(places + 1)).append(figuresText(random.nextInt(5))).toString();
    }

    private String spoiled(String text) {
        int at = random.nextInt(text.length());
        String signs = "0123456789[]-.NX=:a*! ~";
        char sign = signs.charAt(random.nextInt(signs.length()));
        switch (random.nextInt(3)) {
            case 0: return text.substring(0, at);
            case 1: return text.substring(0, at) + sign + text.substring(at);
            default: return text.substring(0, at) + sign + text.substring(at + 1);
        }
    }

    private void askRow() {
        write(likelyRow());
        for (int i = 0; i < 8; i++) {
            int what = i < 6 ? i : some(21);
            same("row(" + what + ")", plan.row(what), model.row(what));
        }
    }

    private void dial() {
        if (model.line(0) == 0 || random.nextInt(3) > 0 && model.line(0) > 1) {
            same("hang()", plan.hang(), model.hang());
            same("lift()", plan.lift(), model.lift());
        }
        for (char likely : likelyRow().toCharArray()) {
            int digit = random.nextInt(25) == 0 ? some(11) : likely - '0';
            same("press(" + digit + ")", plan.press(digit), model.press(digit));
            same("line(5)", plan.line(5), model.line(5));
        }
        askLine();
    }

    private void askLine() {
        for (int what = 0; what <= 7; what++) {
            same("line(" + what + ")", plan.line(what), model.line(what));
        }
        int what = some(21);
        same("line(" + what + ")", plan.line(what), model.line(what));
    }

    private void askPlan() {
        int one = some(10);
        int other = some(10);
        int what = some(7);
        int place = some(11);
        same("pattern(" + one + ", " + what + ")", plan.pattern(one, what), model.pattern(one, what));
        same("lets(" + one + ", " + place + ")", plan.lets(one, place), model.lets(one, place));
        same("narrower(" + one + ", " + other + ")", plan.narrower(one, other), model.narrower(one, other));
        same("clash(" + what + ")", plan.clash(what), model.clash(what));
        same("count(" + place + ")", plan.count(place), model.count(place));
        same("count(2)", plan.count(2), model.count(2));
    }

    private void setStage() {
        int stage = some(4);
        int ticks = random.nextInt(3) == 0 ? random.nextInt(102) : 1 + random.nextInt(9);
        same("stage(" + stage + ", " + ticks + ")", plan.stage(stage, ticks), model.stage(stage, ticks));
    }

    private void dropOne() {
        if (random.nextInt(3) == 0) {
            int number = some(10);
            same("drop(" + number + ")", plan.drop(number), model.drop(number));
        }
    }

    private void letTimeGo() {
        int ticks = random.nextInt(5) == 0 ? some(101) : 1 + random.nextInt(6);
        same("pass(" + ticks + ")", plan.pass(ticks), model.pass(ticks));
        if (random.nextInt(4) == 0) {
            same("end()", plan.end(), model.end());
        }
    }

    private void liftOrHang() {
        if (random.nextInt(2) == 0) {
            same("lift()", plan.lift(), model.lift());
        } else {
            same("hang()", plan.hang(), model.hang());
        }
    }
}
