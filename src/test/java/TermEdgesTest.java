/** The sentences of "What it is" and "Terms" on patterns and rows that name a boundary, each with a test of its own. */
public final class TermEdgesTest {
    private static final Check CHECK = new Check();
    private static final String LONGEST = "[0-9][0-9][0-9][0-9][0-9][0-9][0-9][0-9].=h:81234";

    public static void main(String[] args) {
        oneToEightPlaces();
        figures();
        spans();
        fromTwoToNine();
        anyDigit();
        openOrNot();
        oneWay();
        dropUpToThePlaces();
        upToFourAhead();
        nothingBehindIt();
        upToTenDigits();
        fitsWithAsManyDigits();
        fitsOpenWithAtLeastAsMany();
        fitsByEachOfTheFirst();
        leadsByALongerRow();
        leadsToNoRowBeyondTen();
        numberedFromZeroAsTheyCome();
        tenAtMost();
        narrowerAtTheFirstUnlikePlace();
        narrowerBehindThePlaces();
        narrowestWins();
        ofLikeOnesTheLeastNumber();
        winsNoneIfItFitsNone();
        rewritten();
        readAgain();
        failsIfNoneWins();
        failsBeyondTenDigits();
        failsWithNone();
        failsTheSeventhTime();
        clashIfNeitherIsNarrower();
        clashIfSomeRowFitsBoth();
        clashIfUnlike();
        CHECK.finish();
    }

    /** A text that is a pattern; it is added as the only one. */
    private static DialPlan whole(String text) {
        DialPlan plan = new DialPlan();
        Check.write(plan, text);
        CHECK.same("fault() of " + text, plan.fault(), text.length());
        CHECK.same("add() of " + text, plan.add(), 0);
        return plan;
    }

    /** A text that is no pattern, nor the beginning of one, by its letter at that place. */
    private static void broken(String text, int place) {
        DialPlan plan = new DialPlan();
        Check.write(plan, text);
        CHECK.same("fault() of " + text, plan.fault(), place);
        CHECK.same("add() of " + text, plan.add(), DialPlan.STATE);
    }

    /** A text with which a pattern begins, that is none yet. */
    private static void unended(String text) {
        broken(text, text.length());
    }

    private static int bits(String digits) {
        int bits = 0;
        for (char digit : digits.toCharArray()) {
            bits |= 1 << digit - '0';
        }
        return bits;
    }

    private static void letsAtFirst(String place, String digits) {
        CHECK.same("lets(0, 0) of " + place, whole(place + "=a:0").lets(0, 0), bits(digits));
    }

    private static void oneToEightPlaces() {
        CHECK.about("one to eight PLACES, one behind the other");
        String[] kinds = {"5", "[2-4]", "N", "X"};
        for (String kind : kinds) {
            CHECK.same("PLACES", whole(kind + "=a:0").pattern(0, 0), 1);
            CHECK.same("PLACES", whole(kind.repeat(8) + "=a:0").pattern(0, 0), 8);
            broken(kind.repeat(8) + kind + "=a:0", 8 * kind.length());
            broken("12345678" + kind, 8);
            unended(kind);
            unended(kind.repeat(8));
        }
        broken("=a:0", 0);
        broken(".=a:0", 0);
        unended("");
    }

    private static void figures() {
        CHECK.about("a figure 0 to 9 (it alone)");
        for (char figure = '0'; figure <= '9'; figure++) {
            letsAtFirst("" + figure, "" + figure);
        }
        broken("/=a:0", 0);
        broken(":=a:0", 0);
        broken("1/", 1);
        broken("1:", 1);
    }

    private static void spans() {
        CHECK.about("'[', a figure, '-', a greater figure, ']' (these and all between)");
        letsAtFirst("[0-1]", "01");
        letsAtFirst("[0-9]", "0123456789");
        letsAtFirst("[8-9]", "89");
        letsAtFirst("[3-6]", "3456");
        broken("[4-4]=a:0", 3);
        broken("[4-3]=a:0", 3);
        broken("[0-0]=a:0", 3);
        broken("[9-9]=a:0", 1);
        broken("[9", 1);
        broken("[8-8", 3);
        broken("[/-1]", 1);
        broken("[:-1]", 1);
        broken("[0-/]", 3);
        broken("[0-:]", 3);
        broken("[01]", 2);
        broken("[0-12]", 4);
        broken("[0-1[", 4);
        broken("[N-X]", 1);
        broken("[]", 1);
        unended("[");
        unended("[0");
        unended("[0-");
        unended("[0-1");
    }

    private static void fromTwoToNine() {
        CHECK.about("'N' (2 to 9)");
        letsAtFirst("N", "23456789");
        broken("n=a:0", 0);
    }

    private static void anyDigit() {
        CHECK.about("'X' (any)");
        letsAtFirst("X", "0123456789");
        broken("x=a:0", 0);
    }

    private static void openOrNot() {
        CHECK.about("perhaps '.' (it is OPEN)");
        CHECK.same("OPEN", whole("X=a:0").pattern(0, 1), 0);
        CHECK.same("OPEN", whole("X.=a:0").pattern(0, 1), 1);
        CHECK.same("OPEN", whole("12345678.=a:0").pattern(0, 1), 1);
        CHECK.same("OPEN", whole("12345678=a:0").pattern(0, 1), 0);
        broken("X..=a:0", 2);
        broken("X.X=a:0", 2);
        broken("X.[", 2);
        broken("[0-1.]", 4);
        broken("X=.a:0", 2);
        unended("X.");
    }

    private static void oneWay() {
        CHECK.about("'='; its WAY: a letter 'a' to 'h' (0 to 7), '-' (8: BARRED), '!' (9: HELP), '*' (10: AGAIN); ':'");
        String ways = "abcdefgh-!*";
        for (int way = 0; way < ways.length(); way++) {
            CHECK.same("WAY", whole("X=" + ways.charAt(way) + ":0").pattern(0, 2), way);
            broken("X=" + ways.charAt(way) + "0", 3);
            unended("X=" + ways.charAt(way));
            unended("X=" + ways.charAt(way) + ":");
        }
        broken("X=`:0", 2);
        broken("X=i:0", 2);
        broken("X=A:0", 2);
        broken("X=H:0", 2);
        broken("X=0:0", 2);
        broken("X=:0", 2);
        broken("X=ab:0", 3);
        broken("X==a:0", 2);
        broken("Xa:0", 1);
        broken("X=a::0", 4);
        unended("X=");
        unended("X.=");
    }

    private static void dropUpToThePlaces() {
        CHECK.about("a figure, its DROP (0 to as many as its PLACES)");
        for (int places = 1; places <= 8; places++) {
            String start = "X".repeat(places) + "=a:";
            String open = "X".repeat(places) + ".=a:";
            CHECK.same("DROP", whole(start + 0).pattern(0, 3), 0);
            CHECK.same("DROP", whole(start + places).pattern(0, 3), places);
            CHECK.same("DROP", whole(open + places).pattern(0, 3), places);
            broken(start + (places + 1), start.length());
            broken(open + (places + 1), open.length());
            unended(start);
        }
        whole("[0-9]=a:1");
        broken("[0-9]=a:2", 8);
        broken("X=a:/", 4);
        broken("X=a::", 4);
        broken("X=a:-1", 4);
    }

    private static void upToFourAhead() {
        CHECK.about("and up to four figures, what is AHEAD");
        String figures = "9090";
        for (int many = 0; many <= 4; many++) {
            CHECK.same("AHEAD", whole("X=a:1" + figures.substring(0, many)).pattern(0, 4), many);
        }
        broken("X=a:112345", 9);
        broken("X=a:1/", 5);
        broken("X=a:1:", 5);
        broken("X=a:11N", 6);
    }

    private static void nothingBehindIt() {
        CHECK.about("A PATTERN is a text");
        CHECK.same("PLACES", whole(LONGEST).pattern(0, 0), 8);
        broken(LONGEST + "5", LONGEST.length());
        broken(LONGEST + "   ", LONGEST.length());
        broken("X=a:0 ", 5);
        broken(" X=a:0", 0);
        broken("X=a:0X=a:0", 5);
    }

    private static void row(String patterns, String digits, int what, int due) {
        DialPlan plan = Check.planOf(patterns.split(" "));
        CHECK.same("row(" + what + ") of " + digits + " by " + patterns, Check.row(plan, digits, what), due);
    }

    private static void upToTenDigits() {
        CHECK.about("A ROW is up to ten digits");
        row("X.=a:0", "1", 1, 1);
        row("X.=a:0", "123456789", 1, 1);
        row("X.=a:0", "1234567890", 1, 1);
        row("X.=a:0", "12345678901", 1, DialPlan.STATE);
    }

    private static void fits(String pattern, String digits, boolean due) {
        row(pattern + "=a:0", digits, 1, due ? 1 : 0);
    }

    private static void fitsWithAsManyDigits() {
        CHECK.about("A ROW FITS a PATTERN, if it has as many digits as there are PLACES");
        fits("X", "1", true);
        fits("X", "11", false);
        fits("XX", "1", false);
        fits("XXX", "11", false);
        fits("XXX", "111", true);
        fits("XXX", "1111", false);
        fits("XXXXXXXX", "1111111", false);
        fits("XXXXXXXX", "11111111", true);
        fits("XXXXXXXX", "111111111", false);
        fits("XXXXXXXX", "1111111111", false);
    }

    private static void fitsOpenWithAtLeastAsMany() {
        CHECK.about("(at least as many, if it is OPEN)");
        fits("X.", "1", true);
        fits("X.", "11", true);
        fits("X.", "1111111111", true);
        fits("XXX.", "11", false);
        fits("XXX.", "111", true);
        fits("XXX.", "1111", true);
        fits("XXXXXXXX.", "1111111", false);
        fits("XXXXXXXX.", "11111111", true);
        fits("XXXXXXXX.", "111111111", true);
        fits("XXXXXXXX.", "1111111111", true);
    }

    private static void fitsByEachOfTheFirst() {
        CHECK.about("each of the first ones among those of its PLACE");
        fits("123", "123", true);
        fits("123", "023", false);
        fits("123", "133", false);
        fits("123", "124", false);
        fits("N", "1", false);
        fits("N", "2", true);
        fits("N", "9", true);
        fits("[3-5]", "2", false);
        fits("[3-5]", "3", true);
        fits("[3-5]", "5", true);
        fits("[3-5]", "6", false);
        fits("12.", "120", true);
        fits("12.", "1299999999", true);
        fits("12.", "13", false);
        fits("12.", "132", false);
        fits("12345678.", "1234567890", true);
        fits("12345678.", "1234567990", false);
    }

    private static void leads(String pattern, String digits, boolean due) {
        row(pattern + "=a:0", digits, 2, due ? 1 : 0);
    }

    private static void leadsByALongerRow() {
        CHECK.about("A ROW LEADS to a PATTERN, if some longer ROW that begins with it FITS that");
        leads("12", "1", true);
        leads("12", "2", false);
        leads("12", "12", false);
        leads("12", "123", false);
        leads("1", "1", false);
        leads("12345678", "1", true);
        leads("12345678", "1234567", true);
        leads("12345678", "1234568", false);
        leads("12345678", "2234567", false);
        leads("12345678", "12345678", false);
        leads("12.", "1", true);
        leads("12.", "12", true);
        leads("12.", "125", true);
        leads("12.", "2", false);
        leads("12.", "13", false);
        leads("12.", "132", false);
    }

    private static void leadsToNoRowBeyondTen() {
        CHECK.about("A ROW is up to ten digits: none LEADS beyond");
        leads("1.", "123456789", true);
        leads("1.", "1234567890", false);
        leads("12345678.", "12345678", true);
        leads("12345678.", "123456789", true);
        leads("12345678.", "1234567890", false);
    }

    private static void numberedFromZeroAsTheyCome() {
        CHECK.about("PATTERNS, numbered from 0 as they come");
        DialPlan plan = new DialPlan();
        for (int number = 0; number < 10; number++) {
            CHECK.same("add()", Check.add(plan, number + "=a:0"), number);
        }
        for (int number = 0; number < 10; number++) {
            CHECK.same("lets(" + number + ", 0)", plan.lets(number, 0), 1 << number);
            CHECK.same("winner of " + number, Check.row(plan, "" + number, 0), number);
            CHECK.same("fits of " + number, plan.row(1), 1 << number);
        }
    }

    private static void tenAtMost() {
        CHECK.about("(10 at most)");
        DialPlan plan = new DialPlan();
        for (int number = 0; number < 9; number++) {
            Check.add(plan, "X=a:0");
        }
        CHECK.same("the tenth add()", Check.add(plan, "X=b:0"), 9);
        CHECK.same("the eleventh add()", Check.add(plan, "X=c:0"), DialPlan.FULL);
        CHECK.same("WAY of the tenth", plan.pattern(9, 2), 1);
        CHECK.same("an eleventh", plan.pattern(10, 2), DialPlan.UNKNOWN);
        CHECK.same("PATTERNS", plan.count(0), 10);
    }

    private static void narrower(String one, String other, int due) {
        DialPlan plan = Check.planOf(one + "=a:0", other + "=a:0");
        CHECK.same("narrower of " + one + " and " + other, plan.narrower(0, 1), due);
        CHECK.same("narrower of " + other + " and " + one, plan.narrower(1, 0), due == 2 ? 2 : 1 - due);
    }

    private static void narrowerAtTheFirstUnlikePlace() {
        CHECK.about("if at the first place (of ten, from 0) at which they let unlike many digits it lets fewer");
        narrower("1", "[1-2]", 0);
        narrower("N", "X", 0);
        narrower("[0-8]", "N", 1);
        narrower("[0-7]", "N", 2);
        narrower("[0-9]", "X", 2);
        narrower("0", "9", 2);
        narrower("NX", "X1", 0);
        narrower("X1", "XN", 0);
        narrower("1X1", "11X", 1);
        narrower("XXXXXXX1", "XXXXXXXN", 0);
        narrower("1234567X", "12345671", 1);
        narrower("12345678", "87654321", 2);
    }

    private static void narrowerBehindThePlaces() {
        CHECK.about("behind its PLACES an OPEN one lets 11, another one 0 at each");
        narrower("X", "X.", 0);
        narrower("X", "X1", 0);
        narrower("X", "XX.", 0);
        narrower("XX", "X.", 0);
        narrower("XX.", "X.", 0);
        narrower("XXXXXXXX.", "X.", 0);
        narrower("1.", "N", 0);
        narrower("12345678", "12345678.", 0);
        narrower("1234567", "12345678", 0);
        narrower("1234567", "1234567.", 0);
        narrower("12345678.", "1234567.", 0);
        narrower("1.", "2.", 2);
        narrower("12345678.", "23456789.", 2);
    }

    private static void narrowestWins() {
        CHECK.about("Of those that a ROW FITS that one WINS than which no other one of them is NARROWER");
        row("X.=a:0 1.=a:0 1X=a:0 12=a:0 13=a:0", "12", 0, 3);
        row("12=a:0 1X=a:0 X.=a:0", "12", 0, 0);
        row("12=a:0 1X=a:0 X.=a:0", "13", 0, 1);
        row("12=a:0 1X=a:0 X.=a:0", "22", 0, 2);
        row("XX=a:0 11.=a:0 1=a:0", "11", 0, 1);
        row("XX=a:0 X=a:0 XXX=a:0", "11", 0, 0);
    }

    private static void ofLikeOnesTheLeastNumber() {
        CHECK.about("of like ones the least number");
        row("XX=a:0 1X=b:0 1X=a:0 1N=c:0", "11", 0, 1);
        row("XX=a:0 [1-3]X=b:0 [2-4]X=a:0 [0-2]X=c:0", "21", 0, 1);
        row("XX=a:0 [1-3]X=b:0 [2-4]X=a:0 [0-2]X=c:0", "41", 0, 2);
        row("X.=a:0 X.=b:0", "1234567890", 0, 0);
    }

    private static void winsNoneIfItFitsNone() {
        CHECK.about("none, if it FITS none");
        CHECK.same("row(0) with no patterns", Check.row(new DialPlan(), "1", 0), DialPlan.NONE);
        row("12=a:0 2=a:0", "1", 0, DialPlan.NONE);
        row("12=a:0 2=a:0", "1", 1, 0);
    }

    /** What is told of how a row is read in the end; an empty end is one that fails. */
    private static void read(String patterns, String digits, int way, int times, String end) {
        DialPlan plan = Check.planOf(patterns.split(" "));
        String by = " of " + digits + " by " + patterns;
        CHECK.same("row(3)" + by, Check.row(plan, digits, 3), way);
        CHECK.same("row(4)" + by, plan.row(4), times);
        CHECK.same("row(5)" + by, plan.row(5), end.length());
        for (int place = 0; place < 10; place++) {
            int due = place < end.length() ? end.charAt(place) - '0' : DialPlan.NONE;
            CHECK.same("row(" + (10 + place) + ")" + by, plan.row(10 + place), due);
        }
    }

    private static void fails(String patterns, String digits, int times) {
        read(patterns, digits, DialPlan.NONE, times, "");
    }

    private static void rewritten() {
        CHECK.about("REWRITTEN by a PATTERN: AHEAD, then the ROW without its first DROP digits");
        read("123=a:0", "123", 0, 1, "123");
        read("123=b:1", "123", 1, 1, "23");
        read("123=c:09", "123", 2, 1, "9123");
        read("123=-:30078", "123", 8, 1, "0078");
        read("123=!:29876", "123", 9, 1, "98763");
        read("12.=h:2", "1234567890", 7, 1, "34567890");
        read("12345678.=d:8", "123456789", 3, 1, "9");
    }

    private static void readAgain() {
        CHECK.about("if the WAY is AGAIN, that is READ again");
        read("1X=*:1 2=b:0", "12", 1, 2, "2");
        read("1X=*:15 5X=*:07 7XX=!:10", "12", 9, 3, "052");
        read("1=*:02 21=-:0", "1", 8, 2, "21");
        read("9=-:0 1X=*:1", "19", 8, 2, "9");
    }

    private static void failsIfNoneWins() {
        CHECK.about("It FAILS, if none WINS");
        CHECK.same("row(3) with no patterns", Check.row(new DialPlan(), "1", 3), DialPlan.NONE);
        fails("12=a:0", "1", 1);
        fails("12=a:0", "123", 1);
        fails("1X=*:1", "12", 2);
        fails("1X=*:15 5X=*:1", "12", 3);
    }

    private static void failsBeyondTenDigits() {
        CHECK.about("if what is REWRITTEN has more than ten digits");
        read("1.=a:01234", "123456", 0, 1, "1234123456");
        fails("1.=a:01234", "1234567", 1);
        fails("1.=a:01234", "1234567890", 1);
        read("1.=a:01", "123456789", 0, 1, "1123456789");
        fails("1.=a:01", "1234567890", 1);
        read("1.=a:0", "1234567890", 0, 1, "1234567890");
        read("1.=a:12", "1234567890", 0, 1, "2234567890");
        fails("1.=a:123", "1234567890", 1);
        read("1.=*:02345 2.=c:0", "123456", 2, 2, "2345123456");
        fails("1.=*:02345 2.=c:0", "1234567", 1);
        fails("1.=*:02345 2.=c:03", "123456", 2);
        fails("1.=*:02345 2.=*:03 3.=a:4", "123456", 2);
    }

    private static void failsWithNone() {
        CHECK.about("or none");
        fails("1=a:1", "1", 1);
        fails("12345678=a:8", "12345678", 1);
        fails("1.=a:1", "1", 1);
        read("1.=a:1", "12", 0, 1, "2");
        read("1=a:10", "1", 0, 1, "0");
        fails("1=*:1", "1", 1);
        fails("1X=*:1 2=a:1", "12", 2);
        fails("1X=*:1 2=*:1 X.=a:0", "12", 2);
    }

    private static void failsTheSeventhTime() {
        CHECK.about("or if it would be READ for the seventh time");
        read("9X.=*:1 1=b:0", "1", 1, 1, "1");
        read("9X.=*:1 1=b:0", "99991", 1, 5, "1");
        read("9X.=*:1 1=b:0", "999991", 1, 6, "1");
        fails("9X.=*:1 1=b:0", "9999991", 6);
        fails("9X.=*:1 1=b:0", "99999991", 6);
        fails("1=*:0", "1", 6);
        fails("1=*:12 2=*:11", "1", 6);
        fails("9X.=*:1 1=b:1", "999991", 6);
        fails("9X.=*:1 1=b:0", "999992", 6);
    }

    private static void clash(String one, String other, boolean due) {
        DialPlan plan = Check.planOf(one, other);
        CHECK.same("pairs of " + one + " and " + other, plan.count(2), due ? 1 : 0);
        CHECK.same("clash(0) of " + one + " and " + other, plan.clash(0), due ? 1 : DialPlan.UNKNOWN);
    }

    private static void clashIfNeitherIsNarrower() {
        CHECK.about("Two PATTERNS CLASH, if neither is NARROWER");
        clash("1X=a:0", "1X=b:0", true);
        clash("1X=a:0", "1N=b:0", false);
        clash("1N=a:0", "1X=b:0", false);
        clash("X=a:0", "X.=b:0", false);
        clash("X.=a:0", "X=b:0", false);
        clash("XXXXXXXX=a:0", "XXXXXXXX.=b:0", false);
        clash("X.=a:0", "XX.=b:0", false);
    }

    private static void clashIfSomeRowFitsBoth() {
        CHECK.about("some ROW FITS both");
        clash("[1-3]=a:0", "[3-5]=b:0", true);
        clash("[1-3]=a:0", "[4-6]=b:0", false);
        clash("1[1-3]=a:0", "1[3-5]=b:0", true);
        clash("1[1-3]=a:0", "1[4-6]=b:0", false);
        clash("0=a:0", "9=b:0", false);
        clash("XXXXXXX1=a:0", "XXXXXXX2=b:0", false);
        clash("XXXXXXX1.=a:0", "XXXXXXX2.=b:0", false);
        clash("XXXXXXX1.=a:0", "XXXXXXX1.=b:0", true);
    }

    private static void clashIfUnlike() {
        CHECK.about("and WAY, DROP or AHEAD are unlike");
        clash("1=a:01", "1=a:01", false);
        clash("1=a:01", "1=b:01", true);
        clash("1=a:01", "1=a:11", true);
        clash("1=a:01", "1=a:02", true);
        clash("1=a:0", "1=a:00", true);
        clash("1=a:01", "1=a:001", true);
        clash("1=a:01234", "1=a:01235", true);
        clash("1=a:01234", "1=a:0123", true);
        clash("1=!:0", "1=*:0", true);
    }
}
