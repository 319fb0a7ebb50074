import java.util.ArrayList;
import java.util.List;
import java.util.regex.Matcher;
import java.util.regex.Pattern;

/** The document again, in another way: with texts, regular expressions and trial of rows. */
final class Model {
    private static final int NONE = -1, UNKNOWN = -1001, OUTSIDE = -1002, STATE = -1003, FULL = -1004;
    private static final String PLACE = "(?:[0-9NX]|\\[[0-9]-[0-9]\\])";
    private static final Pattern FORM = Pattern.compile("(" + PLACE + "{1,8})(\\.?)=([a-h!*-]):([0-9])([0-9]{0,4})");
    private static final String[] ENDINGS = endings();

    private record Rule(List<String> places, boolean open, int way, int drop, String ahead) {
        boolean fits(String row) {
            if (row.length() < places.size() || (!open && row.length() > places.size())) {
                return false;
            }
            for (int i = 0; i < places.size(); i++) {
                if (places.get(i).indexOf(row.charAt(i)) < 0) {
                    return false;
                }
            }
            return true;
        }

        /** By trial: if any longer row fits, one with the first digit of each further place does. */
        boolean ledToBy(String row) {
            StringBuilder longer = new StringBuilder(row);
            while (longer.length() < 10) {
                int place = longer.length();
                longer.append(place < places.size() ? places.get(place).charAt(0) : '0');
                if (fits(longer.toString())) {
                    return true;
                }
            }
            return false;
        }

        int width(int place) {
            return place < places.size() ? places.get(place).length() : open ? 11 : 0;
        }

        boolean narrowerThan(Rule other) {
            int place = 0;
            while (place < 10 && width(place) == other.width(place)) {
                place++;
            }
            return place < 10 && width(place) < other.width(place);
        }

        String outcome() {
            return way + "," + drop + "," + ahead;
        }

        /** By trial of the rows of every length that take a common digit at each place. */
        boolean sharesRowWith(Rule other) {
            StringBuilder row = new StringBuilder();
            while (row.length() < 10) {
                char next = 0;
                for (char c = '0'; c <= '9'; c++) {
                    if (lets(row.length(), c) && other.lets(row.length(), c)) {
                        next = c;
                    }
                }
                if (next == 0) {
                    return false;
                }
                row.append(next);
                if (fits(row.toString()) && other.fits(row.toString())) {
                    return true;
                }
            }
            return false;
        }

        boolean lets(int place, char digit) {
            return place < places.size() ? places.get(place).indexOf(digit) >= 0 : open;
        }
    }

    private record Outcome(int way, int times, String row) { }

    private final List<Rule> rules = new ArrayList<>();
    private final int[] ticks = {15, 8, 4};
    private String page = "";
    private String dialled = "";
    private int state = 0;
    private int ended = 0;
    private int left = 0;
    private int lifted = 0;
    private int ready = 0;
    private int lost = 0;
    private int pressed = 0;

    /** Every way in which a beginning of a pattern could be made whole. */
    private static String[] endings() {
        List<String> all = new ArrayList<>();
        for (String span : new String[] {"", "0-1]", "1]", "2]", "3]", "4]", "5]", "6]", "7]", "8]", "9]", "-1]", "-2]", "-9]", "]"}) {
            for (String place : new String[] {"", "0"}) {
                for (String tail : new String[] {"", "0", ":0", "a:0", "=a:0"}) {
                    all.add(span + place + tail);
                }
            }
        }
        return all.toArray(new String[0]);
    }

    private static Rule parse(String text) {
        Matcher form = FORM.matcher(text);
        if (!form.matches()) {
            return null;
        }
        List<String> places = new ArrayList<>();
        Matcher place = Pattern.compile(PLACE).matcher(form.group(1));
        while (place.find()) {
            String digits = digitsOf(place.group());
            if (digits.isEmpty()) {
                return null;
            }
            places.add(digits);
        }
        int drop = Integer.parseInt(form.group(4));
        if (drop > places.size()) {
            return null;
        }
        int way = "abcdefgh-!*".indexOf(form.group(3));
        return new Rule(places, !form.group(2).isEmpty(), way, drop, form.group(5));
    }

    private static String digitsOf(String place) {
        String figures = "0123456789";
        if (place.equals("N")) {
            return "23456789";
        }
        if (place.equals("X")) {
            return figures;
        }
        if (place.length() == 1) {
            return place;
        }
        int low = place.charAt(1) - '0';
        int high = place.charAt(3) - '0';
        return low < high ? figures.substring(low, high + 1) : "";
    }

    private static boolean begins(String text) {
        for (String ending : ENDINGS) {
            if (parse(text + ending) != null) {
                return true;
            }
        }
        return false;
    }

    int letter(int code) {
        if (code < 32 || code > 126) {
            return OUTSIDE;
        }
        if (page.length() == 52) {
            return FULL;
        }
        page += (char) code;
        return page.length();
    }

    int blank() {
        int had = page.length();
        page = "";
        return had;
    }

    int fault() {
        int many = 0;
        while (many < page.length() && begins(page.substring(0, many + 1))) {
            many++;
        }
        return many;
    }

    int add() {
        Rule rule = parse(page);
        if (rule == null || state != 0) {
            return STATE;
        }
        if (rules.size() == 10) {
            return FULL;
        }
        rules.add(rule);
        page = "";
        return rules.size() - 1;
    }

    private boolean isKnown(int number) {
        return number >= 0 && number < rules.size();
    }

    int drop(int pattern) {
        if (!isKnown(pattern)) {
            return UNKNOWN;
        }
        if (state != 0) {
            return STATE;
        }
        rules.remove(pattern);
        return rules.size();
    }

    int pattern(int pattern, int what) {
        if (!isKnown(pattern)) {
            return UNKNOWN;
        }
        if (what < 0 || what > 5) {
            return OUTSIDE;
        }
        Rule rule = rules.get(pattern);
        int number = rule.ahead.isEmpty() ? 0 : Integer.parseInt(rule.ahead);
        return new int[] {rule.places.size(), rule.open ? 1 : 0, rule.way, rule.drop, rule.ahead.length(), number}[what];
    }

    int lets(int pattern, int place) {
        if (!isKnown(pattern)) {
            return UNKNOWN;
        }
        if (place < 0 || place > 9) {
            return OUTSIDE;
        }
        int bits = 0;
        for (int digit = 9; digit >= 0; digit--) {
            bits = 2 * bits + (rules.get(pattern).lets(place, (char) ('0' + digit)) ? 1 : 0);
        }
        return bits;
    }

    int narrower(int one, int other) {
        if (!isKnown(one) || !isKnown(other)) {
            return UNKNOWN;
        }
        if (rules.get(one).narrowerThan(rules.get(other))) {
            return 0;
        }
        return rules.get(other).narrowerThan(rules.get(one)) ? 1 : 2;
    }

    private List<Integer> clashes() {
        List<Integer> pairs = new ArrayList<>();
        for (int i = 0; i < rules.size(); i++) {
            for (int j = i + 1; j < rules.size(); j++) {
                Rule a = rules.get(i);
                Rule b = rules.get(j);
                if (narrower(i, j) == 2 && a.sharesRowWith(b) && !a.outcome().equals(b.outcome())) {
                    pairs.add(16 * i + j);
                }
            }
        }
        return pairs;
    }

    int clash(int place) {
        List<Integer> pairs = clashes();
        return place >= 0 && place < pairs.size() ? pairs.get(place) : UNKNOWN;
    }

    private int winner(String row, boolean helpAlone) {
        int best = NONE;
        for (int i = 0; i < rules.size(); i++) {
            boolean wins = counts(i, row, helpAlone);
            for (int j = 0; j < rules.size(); j++) {
                wins = wins && !(counts(j, row, helpAlone) && rules.get(j).narrowerThan(rules.get(i)));
            }
            if (wins && best == NONE) {
                best = i;
            }
        }
        return best;
    }

    private boolean counts(int number, String row, boolean helpAlone) {
        Rule rule = rules.get(number);
        return rule.fits(row) && (!helpAlone || rule.way == 9);
    }

    private Outcome read(String row, int times) {
        if (times == 7) {
            return new Outcome(NONE, 6, "");
        }
        int winner = winner(row, false);
        if (winner == NONE) {
            return new Outcome(NONE, times, "");
        }
        Rule rule = rules.get(winner);
        String next = rule.ahead + row.substring(rule.drop);
        if (next.isEmpty() || next.length() > 10) {
            return new Outcome(NONE, times, "");
        }
        return rule.way == 10 ? read(next, times + 1) : new Outcome(rule.way, times, next);
    }

    private int bits(String row, boolean leads) {
        int bits = 0;
        for (int i = 0; i < rules.size(); i++) {
            if (leads ? rules.get(i).ledToBy(row) : rules.get(i).fits(row)) {
                bits += 1 << i;
            }
        }
        return bits;
    }

    private static int digitAt(String row, int place) {
        return place < row.length() ? row.charAt(place) - '0' : NONE;
    }

    int row(int what) {
        if (what < 0 || what > 19 || (what > 5 && what < 10)) {
            return OUTSIDE;
        }
        if (!page.matches("[0-9]{1,10}")) {
            return STATE;
        }
        Outcome outcome = read(page, 1);
        switch (what) {
            case 0: return winner(page, false);
            case 1: return bits(page, false);
            case 2: return bits(page, true);
            case 3: return outcome.way;
            case 4: return outcome.times;
            case 5: return outcome.row.length();
            default: return digitAt(outcome.row, what - 10);
        }
    }

    int stage(int stage, int v) {
        if (stage < 0 || stage > 2 || v < 1 || v > 99) {
            return OUTSIDE;
        }
        int were = ticks[stage];
        ticks[stage] = v;
        return were;
    }

    int lift() {
        if (state != 0) {
            return STATE;
        }
        state = 1;
        lifted++;
        left = ticks[0];
        return left;
    }

    int hang() {
        if (state == 0) {
            return STATE;
        }
        int had = dialled.length();
        dialled = "";
        state = 0;
        ended = 0;
        left = 0;
        return had;
    }

    private int finish(int how) {
        boolean fits = bits(dialled, false) != 0;
        state = fits ? 2 : 3;
        ready += fits ? 1 : 0;
        lost += fits ? 0 : 1;
        ended = how;
        left = 0;
        return state;
    }

    int press(int digit) {
        if (digit < 0 || digit > 9) {
            return OUTSIDE;
        }
        if (state != 1) {
            return STATE;
        }
        dialled += digit;
        pressed++;
        if (winner(dialled, true) != NONE) {
            return finish(4);
        }
        if (bits(dialled, true) == 0) {
            return finish(1);
        }
        left = ticks[bits(dialled, false) == 0 ? 1 : 2];
        return state;
    }

    int pass(int n) {
        if (n < 1 || n > 99) {
            return OUTSIDE;
        }
        if (state != 1) {
            return STATE;
        }
        for (int i = 0; i < n && state == 1; i++) {
            left--;
            if (left == 0) {
                finish(2);
            }
        }
        return state;
    }

    int end() {
        return state == 1 ? finish(3) : STATE;
    }

    private int sure() {
        for (int many = 0; many <= dialled.length(); many++) {
            String first = dialled.substring(0, many);
            List<String> outcomes = new ArrayList<>();
            for (Rule rule : rules) {
                if ((rule.fits(first) || rule.ledToBy(first)) && !outcomes.contains(rule.outcome())) {
                    outcomes.add(rule.outcome());
                }
            }
            if (outcomes.size() == 1) {
                return many;
            }
        }
        return NONE;
    }

    int line(int what) {
        if (what < 0 || what > 19 || (what > 7 && what < 10)) {
            return OUTSIDE;
        }
        switch (what) {
            case 0: return state;
            case 1: return dialled.length();
            case 2: return left;
            case 3: return state != 1 ? NONE : dialled.isEmpty() ? 0 : bits(dialled, false) == 0 ? 1 : 2;
            case 4: return state != 2 ? NONE : winner(dialled, ended == 4);
            case 5: return sure();
            case 6: return ended;
            case 7: return state != 2 ? NONE : ended == 4 ? 9 : read(dialled, 1).way;
            default: return digitAt(dialled, what - 10);
        }
    }

    int count(int what) {
        if (what < 0 || what > 9) {
            return OUTSIDE;
        }
        return new int[] {rules.size(), page.length(), clashes().size(), ticks[0], ticks[1], ticks[2], lifted, ready, lost, pressed}[what];
    }

    long digest() {
        List<Integer> numbers = new ArrayList<>();
        for (int i = 0; i < rules.size(); i++) {
            for (int what = 0; what <= 5; what++) {
                numbers.add(pattern(i, what));
            }
            for (int place = 0; place <= 9; place++) {
                numbers.add(lets(i, place));
            }
        }
        numbers.addAll(clashes());
        for (int what = 0; what <= 7; what++) {
            numbers.add(line(what));
        }
        for (int what = 10; what <= 19; what++) {
            numbers.add(line(what));
        }
        for (char letter : page.toCharArray()) {
            numbers.add((int) letter);
        }
        for (int what = 0; what <= 9; what++) {
            numbers.add(count(what));
        }
        long h = 1669;
        for (int number : numbers) {
            h = 31 * h + number;
        }
        return h;
    }
}
