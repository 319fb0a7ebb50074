/** The sentences of promises 1 to 20 that name a boundary, each with a test of its own; refusals stand in RefusalEdgesTest. */
public final class CallEdgesTest {
    private static final Check CHECK = new Check();
    private static final int WAITING = 1, READY = 2, LOST = 3;
    private static final int[] DOWN_LINE = {0, 0, 0, -1, -1, -1, 0, -1};

    public static void main(String[] args) {
        newObject();
        letterTellsHowMany();
        blankTellsHowMany();
        faultOfTheFirst();
        faultIfThereIsNone();
        addEmptiesThePage();
        dropMovesThoseBehind();
        dropLeavesNothingBehind();
        patternTells();
        aheadAsANumber();
        letsBehindThePlaces();
        narrowerOfOneAndItself();
        clashesInOrder();
        clashesOfAllPairs();
        rowOfOneToTen();
        rowStays();
        rowInTheEnd();
        stageFromTheNextTime();
        liftTellsTicks();
        hangTellsDigits();
        pressTellsTheState();
        passOfTheOthers();
        endTellsTheState();
        lineWhileDown();
        lineWhileWaiting();
        lineWhileReady();
        lineWhileLost();
        wayThatFails();
        countsOfThePlan();
        countsOfTheLine();
        digestInOrder();
        lastOf512Calls();
        CHECK.finish();
    }

    private static void line(String when, DialPlan plan, int... due) {
        for (int what = 0; what < due.length; what++) {
            CHECK.same(when + ": line(" + what + ")", plan.line(what), due[what]);
        }
    }

    private static void newObject() {
        CHECK.about("1: No PATTERNS; THE LINE is DOWN");
        DialPlan plan = new DialPlan();
        line("new", plan, DOWN_LINE);
        CHECK.same("count(0)", plan.count(0), 0);
        CHECK.same("pattern(0, 0)", plan.pattern(0, 0), DialPlan.UNKNOWN);
        CHECK.same("count(1)", plan.count(1), 0);
        for (int what = 6; what <= 9; what++) {
            CHECK.same("count(" + what + ")", plan.count(what), 0);
        }
        DialPlan used = Check.dialled("1=a:0", "1");
        CHECK.same("PATTERNS of another one", new DialPlan().count(0), 0);
        CHECK.same("PATTERNS of the used one", used.count(0), 1);
    }

    private static void letterTellsHowMany() {
        CHECK.about("2: A letter comes behind THE PAGE, by its code: how many THE PAGE has");
        DialPlan plan = new DialPlan();
        for (int many = 1; many <= 52; many++) {
            CHECK.same("letter()", plan.letter(31 + many), many);
        }
        CHECK.same("digest()", plan.digest(), Check.digestOf(plan, pageOf(32, 52)));
        plan.blank();
        for (int many = 1; many <= 52; many++) {
            CHECK.same("letter()", plan.letter(74 + many), many);
        }
        CHECK.same("digest()", plan.digest(), Check.digestOf(plan, pageOf(75, 52)));
        DialPlan up = Check.dialled("12=a:0", "1");
        CHECK.same("letter() while WAITING", up.letter('a'), 1);
        up.press(2);
        CHECK.same("letter() while READY", up.letter('b'), 2);
    }

    private static String pageOf(int first, int many) {
        StringBuilder page = new StringBuilder();
        for (int i = 0; i < many; i++) {
            page.append((char) (first + i));
        }
        return page.toString();
    }

    private static void blankTellsHowMany() {
        CHECK.about("3: THE PAGE is empty: how many letters it had");
        DialPlan plan = new DialPlan();
        CHECK.same("blank() of an empty page", plan.blank(), 0);
        for (int many = 1; many <= 52; many++) {
            plan.letter('1');
        }
        CHECK.same("blank() of a full page", plan.blank(), 52);
        CHECK.same("letters", plan.count(1), 0);
        CHECK.same("blank() again", plan.blank(), 0);
        CHECK.same("letter()", plan.letter('2'), 1);
        CHECK.same("fault()", plan.fault(), 1);
        CHECK.same("blank() of one", plan.blank(), 1);
        Check.add(plan, "X=a:0");
        CHECK.same("blank() after add()", plan.blank(), 0);
    }

    private static void fault(String text, int due) {
        DialPlan plan = new DialPlan();
        Check.write(plan, text);
        CHECK.same("fault() of " + text, plan.fault(), due);
        CHECK.same("letters", plan.count(1), text.length());
        CHECK.same("digest()", plan.digest(), Check.digestOf(plan, text));
    }

    private static void faultOfTheFirst() {
        CHECK.about("4: The place (from 0) of the first letter of THE PAGE with which, and those ahead of it, no PATTERN begins");
        fault("~", 0);
        fault(" 1=a:0", 0);
        fault("X~~~", 1);
        fault("X=a:05678~", 9);
        fault("XX[3-3]=i:9", 5);
        fault("[0-1][0-1][0-1][0-1][0-1][0-1][0-1][0-1].=a:00000000", 49);
        fault("1".repeat(52), 8);
    }

    private static void faultIfThereIsNone() {
        CHECK.about("4: how many letters it has, if there is none");
        String text = "[0-1][0-1][0-1][0-1][0-1][0-1][0-1][0-1].=a:81234";
        for (int many = 0; many <= text.length(); many++) {
            fault(text.substring(0, many), many);
        }
    }

    private static void addEmptiesThePage() {
        CHECK.about("5: THE PAGE is read as a PATTERN that comes: its number; THE PAGE is empty then");
        DialPlan plan = new DialPlan();
        for (int number = 0; number < 10; number++) {
            Check.write(plan, number + "X=a:0");
            CHECK.same("add()", plan.add(), number);
            CHECK.same("letters", plan.count(1), 0);
            CHECK.same("PATTERNS", plan.count(0), number + 1);
            CHECK.same("add() of an empty page", plan.add(), DialPlan.STATE);
        }
        CHECK.same("letter()", plan.letter('7'), 1);
    }

    private static void dropMovesThoseBehind() {
        CHECK.about("6: A PATTERN is gone (those behind it have a number less by 1): how many are left");
        for (int gone = 0; gone < 10; gone++) {
            DialPlan plan = new DialPlan();
            for (int number = 0; number < 10; number++) {
                Check.add(plan, number + "=a:0");
            }
            CHECK.same("drop(" + gone + ")", plan.drop(gone), 9);
            allBut(gone, plan);
            CHECK.same("lets(9, 0)", plan.lets(9, 0), DialPlan.UNKNOWN);
            CHECK.same("add()", Check.add(plan, "[0-1]=a:0"), 9);
            CHECK.same("lets(9, 0)", plan.lets(9, 0), 3);
            allBut(gone, plan);
        }
        DialPlan plan = Check.planOf("1=a:0", "2=a:0");
        CHECK.same("drop(1)", plan.drop(1), 1);
        CHECK.same("drop(0)", plan.drop(0), 0);
        CHECK.same("lift() with none left", plan.lift(), 15);
        CHECK.same("press() with none left", plan.press(1), LOST);
    }

    /** Nine are left of ten that let their own number each. */
    private static void allBut(int gone, DialPlan plan) {
        for (int number = 0; number < 9; number++) {
            int due = 1 << (number < gone ? number : number + 1);
            CHECK.same("lets(" + number + ", 0) after drop(" + gone + ")", plan.lets(number, 0), due);
        }
    }

    private static void dropLeavesNothingBehind() {
        CHECK.about("6: A PATTERN is gone (and nothing of it is left in one that comes then)");
        DialPlan plan = Check.planOf("1=a:01", "XXXXXXXX.=h:81234");
        plan.drop(1);
        String[] texts = {"1=a:01", "1=a:012", "1=a:0", "1=a:01"};
        int[] clashes = {0, 1, 1, 0};
        for (int i = 0; i < texts.length; i++) {
            CHECK.same("add() of " + texts[i], Check.add(plan, texts[i]), 1);
            CHECK.same("pairs that CLASH with " + texts[i], plan.count(2), clashes[i]);
            CHECK.same("SURE with " + texts[i], plan.line(5), clashes[i] == 0 ? 0 : DialPlan.NONE);
            CHECK.same("OPEN", plan.pattern(1, 1), 0);
            CHECK.same("lets(1, 1)", plan.lets(1, 1), 0);
            CHECK.same("lets(1, 9)", plan.lets(1, 9), 0);
            CHECK.same("narrower(0, 1)", plan.narrower(0, 1), 2);
            CHECK.same("drop(1)", plan.drop(1), 1);
        }
    }

    private static void tells(String text, int... due) {
        DialPlan plan = Check.planOf(text);
        for (int what = 0; what < due.length; what++) {
            CHECK.same("pattern(0, " + what + ") of " + text, plan.pattern(0, what), due[what]);
        }
    }

    private static void patternTells() {
        CHECK.about("7: 0 how many PLACES, 1 whether it is OPEN (1, 0), 2 WAY, 3 DROP, 4 how many figures are AHEAD, 5 these");
        tells("1=a:0", 1, 0, 0, 0, 0, 0);
        tells("[0-1].=h:17", 1, 1, 7, 1, 1, 7);
        tells("NNNNNNNN.=*:89999", 8, 1, 10, 8, 4, 9999);
        tells("NX[0-9]0=-:323", 4, 0, 8, 3, 2, 23);
    }

    private static void aheadAsANumber() {
        CHECK.about("7: 4 how many figures are AHEAD, 5 these as a number (0: none)");
        String[] ahead = {"", "0", "00", "0000", "1", "01", "001", "0001", "10", "1000", "0100", "9999", "0907"};
        int[] due = {0, 0, 0, 0, 1, 1, 1, 1, 10, 1000, 100, 9999, 907};
        for (int i = 0; i < ahead.length; i++) {
            tells("1=a:0" + ahead[i], 1, 0, 0, 0, ahead[i].length(), due[i]);
        }
    }

    private static void lets(String text, int... due) {
        DialPlan plan = Check.planOf(text);
        for (int place = 0; place < 10; place++) {
            CHECK.same("lets(0, " + place + ") of " + text, plan.lets(0, place), due[place]);
        }
    }

    private static void letsBehindThePlaces() {
        CHECK.about("8: Which digits a PATTERN lets at a place (0 to 9), as bits (all ten where it is OPEN; 0: none)");
        lets("0=a:0", 1, 0, 0, 0, 0, 0, 0, 0, 0, 0);
        lets("9.=a:0", 512, 1023, 1023, 1023, 1023, 1023, 1023, 1023, 1023, 1023);
        lets("NX[0-1][8-9]0123=a:0", 1020, 1023, 3, 768, 1, 2, 4, 8, 0, 0);
        lets("NX[0-1][8-9]0123.=a:0", 1020, 1023, 3, 768, 1, 2, 4, 8, 1023, 1023);
    }

    private static void narrowerOfOneAndItself() {
        CHECK.about("9: 0 the first one, 1 the second one, 2 neither");
        DialPlan plan = Check.planOf("1X=a:0", "1=a:0", "2X=b:1");
        int[][] due = {{2, 1, 2}, {0, 2, 0}, {2, 1, 2}};
        for (int one = 0; one < 3; one++) {
            for (int other = 0; other < 3; other++) {
                CHECK.same("narrower(" + one + ", " + other + ")", plan.narrower(one, other), due[one][other]);
            }
        }
    }

    private static void clashesInOrder() {
        CHECK.about("10: the so-manieth (from 0; by the lesser number of both, then by the greater one)");
        DialPlan plan = Check.planOf("1=a:0", "2=a:0", "1=b:0", "2=b:0", "1=c:0", "2=a:0");
        int[] due = {2, 4, 16 + 3, 2 * 16 + 4, 3 * 16 + 5};
        for (int place = 0; place < due.length; place++) {
            CHECK.same("clash(" + place + ")", plan.clash(place), due[place]);
        }
        CHECK.same("one behind the last", plan.clash(due.length), DialPlan.UNKNOWN);
        CHECK.same("count(2)", plan.count(2), due.length);
        plan.drop(0);
        CHECK.same("clash(0) after drop(0)", plan.clash(0), 2);
        CHECK.same("clash(1) after drop(0)", plan.clash(1), 16 + 3);
        CHECK.same("clash(2) after drop(0)", plan.clash(2), 2 * 16 + 4);
        CHECK.same("clash(3) after drop(0)", plan.clash(3), DialPlan.UNKNOWN);
    }

    private static void clashesOfAllPairs() {
        CHECK.about("10: 16 times the lesser, and the greater one. UNKNOWN: there are not so many");
        DialPlan plan = new DialPlan();
        for (int number = 0; number < 10; number++) {
            Check.add(plan, "12345678.=a:0" + number);
        }
        int place = 0;
        for (int lesser = 0; lesser < 10; lesser++) {
            for (int greater = lesser + 1; greater < 10; greater++) {
                CHECK.same("clash(" + place + ")", plan.clash(place), 16 * lesser + greater);
                place++;
            }
        }
        CHECK.same("count(2)", plan.count(2), 45);
        CHECK.same("clash(45)", plan.clash(45), DialPlan.UNKNOWN);
        plan.lift();
        CHECK.same("clash(44) while UP", plan.clash(44), 8 * 16 + 9);
    }

    private static void rowOfOneToTen() {
        CHECK.about("11: THE PAGE as a ROW (digits alone, one to ten)");
        String digits = "0987654321";
        for (int many = 1; many <= 10; many++) {
            String row = digits.substring(0, many);
            DialPlan plan = Check.planOf("X.=a:0");
            CHECK.same("row(0) of " + row, Check.row(plan, row, 0), 0);
            CHECK.same("row(1) of " + row, plan.row(1), 1);
            CHECK.same("row(2) of " + row, plan.row(2), many < 10 ? 1 : 0);
            CHECK.same("row(5) of " + row, plan.row(5), many);
            CHECK.same("last digit of " + row, plan.row(9 + many), row.charAt(many - 1) - '0');
            CHECK.same("no digit behind " + row, plan.row(10 + many), many < 10 ? DialPlan.NONE : DialPlan.OUTSIDE);
        }
    }

    private static void rowStays() {
        CHECK.about("11: (it stays)");
        DialPlan plan = Check.planOf("1.=*:12", "2.=b:0");
        Check.write(plan, "123");
        long before = plan.digest();
        int[] due = {0, 1, 1, 1, 2, 3};
        for (int what = 0; what < due.length; what++) {
            CHECK.same("row(" + what + ")", plan.row(what), due[what]);
            CHECK.same("letters", plan.count(1), 3);
            CHECK.same("row(10)", plan.row(10), 2);
        }
        CHECK.same("digest()", plan.digest(), before);
        CHECK.same("letter()", plan.letter('4'), 4);
        CHECK.same("row(5)", plan.row(5), 4);
    }

    private static void rowInTheEnd() {
        CHECK.about("11: 5 how many digits there are in the end (0: it FAILS), 10 to 19 the digit at that place in the end (NONE)");
        DialPlan plan = Check.planOf("1.=a:19876", "2.=b:1", "3=c:1");
        CHECK.same("row(5) of ten in the end", Check.row(plan, "1234567", 5), 10);
        CHECK.same("row(10)", plan.row(10), 9);
        CHECK.same("row(19)", plan.row(19), 7);
        CHECK.same("row(5) of one in the end", Check.row(plan, "20", 5), 1);
        CHECK.same("row(10)", plan.row(10), 0);
        CHECK.same("row(11)", plan.row(11), DialPlan.NONE);
        CHECK.same("row(19)", plan.row(19), DialPlan.NONE);
        String[] failing = {"3", "4", "2", "12345678"};
        for (String row : failing) {
            CHECK.same("row(3) of " + row, Check.row(plan, row, 3), DialPlan.NONE);
            CHECK.same("row(4) of " + row, plan.row(4), 1);
            CHECK.same("row(5) of " + row, plan.row(5), 0);
            CHECK.same("row(10) of " + row, plan.row(10), DialPlan.NONE);
            CHECK.same("row(19) of " + row, plan.row(19), DialPlan.NONE);
        }
    }

    private static void stageFromTheNextTime() {
        CHECK.about("12: TICKS of a STAGE become v, from the next time they are told on: how many they were");
        int[] first = {15, 8, 4};
        String[] digits = {"", "1", "12"};
        for (int stage = 0; stage < 3; stage++) {
            DialPlan plan = Check.dialled("12=a:0 123=a:0", digits[stage]);
            CHECK.same("stage(" + stage + ", 99)", plan.stage(stage, 99), first[stage]);
            CHECK.same("TICKS as they were", plan.line(2), first[stage]);
            CHECK.same("stage(" + stage + ", 1)", plan.stage(stage, 1), 99);
            CHECK.same("stage(" + stage + ", 1) again", plan.stage(stage, 1), 1);
            CHECK.same("pass() of all but one", plan.pass(first[stage] - 1), WAITING);
            plan.hang();
            plan.lift();
            Check.dial(plan, digits[stage]);
            CHECK.same("TICKS told anew", plan.line(2), 1);
            CHECK.same("pass(1)", plan.pass(1), stage == 2 ? READY : LOST);
            plan.hang();
            plan.stage(stage, 99);
            plan.lift();
            Check.dial(plan, digits[stage]);
            CHECK.same("TICKS told anew", plan.line(2), 99);
            CHECK.same("pass(98)", plan.pass(98), WAITING);
            CHECK.same("pass(1)", plan.pass(1), stage == 2 ? READY : LOST);
        }
    }

    private static void liftTellsTicks() {
        CHECK.about("13: THE LINE is lifted: TICKS that are left");
        DialPlan plan = new DialPlan();
        CHECK.same("lift()", plan.lift(), 15);
        plan.pass(9);
        plan.hang();
        CHECK.same("lift() again", plan.lift(), 15);
        plan.hang();
        plan.stage(0, 1);
        CHECK.same("lift() of the least", plan.lift(), 1);
        plan.hang();
        plan.stage(0, 99);
        CHECK.same("lift() of the most", plan.lift(), 99);
    }

    private static void hangTellsDigits() {
        CHECK.about("14: THE LINE is put DOWN: how many digits were pressed");
        String digits = "1234567890";
        for (int many = 0; many <= 10; many++) {
            DialPlan plan = Check.dialled("1.=a:0", digits.substring(0, many));
            CHECK.same("hang()", plan.hang(), many);
            line("hung", plan, 0, 0, 0, -1, -1, 0, 0, -1);
            plan.lift();
            CHECK.same("hang() at once", plan.hang(), 0);
        }
        DialPlan lost = Check.dialled("12=a:0", "13");
        lost.press(1);
        CHECK.same("hang() after a refused digit", lost.hang(), 2);
    }

    private static void pressTellsTheState() {
        CHECK.about("15: A digit is pressed: how THE LINE is then: 1 WAITING, 2 READY, 3 LOST");
        DialPlan plan = Check.dialled("09=a:0 90=!:0", "");
        CHECK.same("press(0)", plan.press(0), WAITING);
        CHECK.same("press(9)", plan.press(9), READY);
        plan.hang();
        plan.lift();
        CHECK.same("press(9)", plan.press(9), WAITING);
        CHECK.same("press(0)", plan.press(0), READY);
        plan.hang();
        plan.lift();
        CHECK.same("press(5)", plan.press(5), LOST);
    }

    private static void passOfTheOthers() {
        CHECK.about("16: So many TICKS go by (when TIME is out the others do nothing): how THE LINE is then");
        DialPlan plan = Check.dialled("12=a:0 123=a:0", "");
        CHECK.same("pass(1)", plan.pass(1), WAITING);
        CHECK.same("TICKS", plan.line(2), 14);
        CHECK.same("pass(99)", plan.pass(99), LOST);
        line("out", plan, LOST, 0, 0, -1, -1, 0, 2, -1);
        plan.hang();
        CHECK.same("lift()", plan.lift(), 15);
        Check.dial(plan, "12");
        CHECK.same("pass(99)", plan.pass(99), READY);
        line("out", plan, READY, 2, 0, -1, 0, 0, 2, 0);
        CHECK.same("READY", plan.count(7), 1);
        CHECK.same("LOST", plan.count(8), 1);
        plan.hang();
        plan.stage(0, 99);
        plan.lift();
        CHECK.same("pass(99) of 99", plan.pass(99), LOST);
    }

    private static void endTellsTheState() {
        CHECK.about("17: It is ended by hand: how THE LINE is then");
        DialPlan plan = Check.dialled("1.=a:0", "");
        CHECK.same("end() with no digits", plan.end(), LOST);
        line("ended", plan, LOST, 0, 0, -1, -1, 0, 3, -1);
        plan.hang();
        plan.lift();
        Check.dial(plan, "123456789");
        CHECK.same("end() with nine digits", plan.end(), READY);
        line("ended", plan, READY, 9, 0, -1, 0, 0, 3, 0);
    }

    private static void lineWhileDown() {
        CHECK.about("18: 0 DOWN; 2 (0: it is not WAITING), 3, 4, 7 (NONE)");
        String[] dialled = {"", "1", "12", "3"};
        for (String digits : dialled) {
            DialPlan plan = Check.dialled("12=a:0 123=b:0", digits);
            plan.hang();
            line("hung after " + digits, plan, DOWN_LINE);
            CHECK.same("no digit", plan.line(10), DialPlan.NONE);
        }
    }

    private static void lineWhileWaiting() {
        CHECK.about("18: 1 WAITING; 4, 7 (NONE: it is not READY), 6 (0 not yet)");
        line("lifted", Check.dialled("12=a:0 123=b:0", ""), WAITING, 0, 15, 0, -1, -1, 0, -1);
        line("one digit", Check.dialled("12=a:0 123=b:0", "1"), WAITING, 1, 8, 1, -1, -1, 0, -1);
        line("two digits", Check.dialled("12=a:0 123=b:0", "12"), WAITING, 2, 4, 2, -1, -1, 0, -1);
    }

    private static void lineWhileReady() {
        CHECK.about("18: 2 READY; 6 how it ended (1 by a digit, 2 TIME was out, 3 by hand, 4 by HELP)");
        line("by a digit", Check.dialled("12=c:0", "12"), READY, 2, 0, -1, 0, 0, 1, 2);
        DialPlan out = Check.dialled("1.=c:0", "1");
        out.pass(4);
        line("TIME was out", out, READY, 1, 0, -1, 0, 0, 2, 2);
        DialPlan hand = Check.dialled("1.=c:0", "1");
        hand.end();
        line("by hand", hand, READY, 1, 0, -1, 0, 0, 3, 2);
        line("by HELP", Check.dialled("1=c:0 X=!:0", "1"), READY, 1, 0, -1, 1, -1, 4, 9);
        line("by HELP alone", Check.dialled("1=!:0", "1"), READY, 1, 0, -1, 0, 0, 4, 9);
    }

    private static void lineWhileLost() {
        CHECK.about("18: 3 LOST; 4, 7 (NONE: it is not READY)");
        line("by a digit", Check.dialled("12=a:0", "2"), LOST, 1, 0, -1, -1, 0, 1, -1);
        DialPlan out = Check.dialled("12=a:0", "1");
        out.pass(8);
        line("TIME was out", out, LOST, 1, 0, -1, -1, 0, 2, -1);
        DialPlan hand = Check.dialled("12=a:0", "1");
        hand.end();
        line("by hand", hand, LOST, 1, 0, -1, -1, 0, 3, -1);
    }

    private static void wayThatFails() {
        CHECK.about("18: 7 the WAY by which READ of its digits ends (9, if it ended by HELP; NONE: or it FAILS)");
        CHECK.same("read again", Check.dialled("12=*:1 2=e:0", "12").line(7), 4);
        CHECK.same("read again to HELP", Check.dialled("12=*:1 2=!:0", "12").line(7), 9);
        CHECK.same("rewritten to none", Check.dialled("12=a:2", "12").line(7), DialPlan.NONE);
        CHECK.same("none wins again", Check.dialled("12=*:1", "12").line(7), DialPlan.NONE);
        CHECK.same("beyond ten", Check.dialled("1.=a:01", "1234567890").line(7), DialPlan.NONE);
        CHECK.same("ten", Check.dialled("1.=a:12", "1234567890").line(7), 0);
        DialPlan six = Check.dialled("9X.=*:1 1=b:0", "999991");
        six.end();
        CHECK.same("six times", six.line(7), 1);
        DialPlan seven = Check.dialled("9X.=*:1 1=b:0", "9999991");
        seven.end();
        CHECK.same("seven times", seven.line(7), DialPlan.NONE);
        CHECK.same("HELP that would fail", Check.dialled("1=!:1", "1").line(7), 9);
        CHECK.same("HELP beside a narrower one", Check.dialled("1=a:0 X=!:1", "1").line(7), 9);
    }

    private static void countsOfThePlan() {
        CHECK.about("19: 0 PATTERNS, 1 letters of THE PAGE, 2 pairs that CLASH, 3 to 5 TICKS of STAGES 0 to 2");
        DialPlan plan = new DialPlan();
        for (int number = 0; number < 10; number++) {
            CHECK.same("PATTERNS", plan.count(0), number);
            CHECK.same("pairs", plan.count(2), number * (number - 1) / 2);
            Check.add(plan, "X=a:0" + number);
        }
        CHECK.same("PATTERNS", plan.count(0), 10);
        CHECK.same("pairs", plan.count(2), 45);
        for (int many = 0; many < 52; many++) {
            CHECK.same("letters", plan.count(1), many);
            plan.letter('0');
        }
        CHECK.same("letters", plan.count(1), 52);
        for (int stage = 0; stage < 3; stage++) {
            plan.stage(stage, 97 + stage);
        }
        for (int stage = 0; stage < 3; stage++) {
            CHECK.same("TICKS of " + stage, plan.count(3 + stage), 97 + stage);
        }
    }

    private static void lineCounts(String when, DialPlan plan, int... due) {
        for (int i = 0; i < due.length; i++) {
            CHECK.same(when + ": count(" + (6 + i) + ")", plan.count(6 + i), due[i]);
        }
    }

    private static void countsOfTheLine() {
        CHECK.about("19: 6 how often THE LINE was lifted, 7 how often it was READY, 8 LOST, 9 digits pressed, ever");
        DialPlan plan = Check.dialled("12=a:0 1.=b:0 0=!:0", "");
        lineCounts("lifted", plan, 1, 0, 0, 0);
        plan.lift();
        lineCounts("lifted in vain", plan, 1, 0, 0, 0);
        plan.press(1);
        plan.press(10);
        lineCounts("a digit", plan, 1, 0, 0, 1);
        plan.end();
        lineCounts("READY by hand", plan, 1, 1, 0, 1);
        plan.end();
        plan.press(1);
        lineCounts("ended in vain", plan, 1, 1, 0, 1);
        plan.hang();
        lineCounts("hung", plan, 1, 1, 0, 1);
        plan.lift();
        plan.press(0);
        lineCounts("READY by HELP", plan, 2, 2, 0, 2);
        plan.hang();
        plan.lift();
        plan.press(5);
        lineCounts("LOST by a digit", plan, 3, 2, 1, 3);
        plan.hang();
        plan.lift();
        plan.pass(15);
        lineCounts("LOST by time", plan, 4, 2, 2, 3);
        plan.hang();
        plan.lift();
        plan.end();
        lineCounts("LOST by hand", plan, 5, 2, 3, 3);
        plan.hang();
        plan.lift();
        plan.press(1);
        plan.pass(4);
        lineCounts("READY by time", plan, 6, 3, 3, 4);
        plan.hang();
        plan.lift();
        Check.dial(plan, "1234567890");
        lineCounts("READY by a digit", plan, 7, 4, 3, 14);
        plan.hang();
        plan.lift();
        plan.press(1);
        plan.hang();
        lineCounts("hung while WAITING", plan, 8, 4, 3, 15);
        plan.drop(0);
        lineCounts("dropped", plan, 8, 4, 3, 15);
    }

    private static void digest(String when, DialPlan plan, String page) {
        CHECK.same(when + ": digest()", plan.digest(), Check.digestOf(plan, page));
    }

    private static void digestInOrder() {
        CHECK.about("20: h is 1669, then for each of these numbers, in order, 31 times h, and it (as longs, wrapping)");
        digest("new", new DialPlan(), "");
        DialPlan full = new DialPlan();
        for (int number = 0; number < 10; number++) {
            Check.add(full, "XXXXXXXX.=*:89" + number + "8");
        }
        Check.write(full, "~".repeat(52));
        digest("ten patterns and a full page", full, "~".repeat(52));
        digest("lifted", Check.dialled("1X=a:0 1X=b:0", ""), "");
        digest("one digit", Check.dialled("1X=a:0 1X=b:0", "1"), "");
        digest("READY", Check.dialled("1X=a:0 1X=b:0", "12"), "");
        digest("LOST", Check.dialled("1X=a:0 1X=b:0", "2"), "");
        digest("HELP", Check.dialled("1X=a:0 1X=!:0", "19"), "");
        digest("ten digits", Check.dialled("1X.=a:0 1X.=b:1", "1234567890"), "");
        DialPlan page = Check.dialled("1X.=a:0", "123");
        Check.write(page, " ~0X");
        digest("a page beside digits", page, " ~0X");
        page.hang();
        digest("hung", page, " ~0X");
    }

    private static void lastOf512Calls() {
        CHECK.about("An object is used for at most 512 calls after it has been made");
        DialPlan plan = new DialPlan();
        for (int call = 1; call <= 507; call += 3) {
            CHECK.same("call " + call, plan.lift(), 15);
            CHECK.same("call " + (call + 1), plan.press(call % 10), LOST);
            CHECK.same("call " + (call + 2), plan.hang(), 1);
        }
        CHECK.same("call 508", plan.count(6), 169);
        CHECK.same("call 509", plan.count(7), 0);
        CHECK.same("call 510", plan.count(8), 169);
        CHECK.same("call 511", plan.count(9), 169);
        CHECK.same("call 512", plan.line(0), 0);
    }
}
