/** Numbers as they are dialled, digit by digit, and the patterns by which they find their way. */
public final class DialPlan {
    public static final int NONE = -1, UNKNOWN = -1001, OUTSIDE = -1002, STATE = -1003, FULL = -1004;

    private static final int PAGE_LIMIT = 52;
    private static final int PLAN_LIMIT = 10;
    private static final int PLACE_LIMIT = 8;
    private static final int AHEAD_LIMIT = 4;
    private static final int ROW_LIMIT = 10;
    private static final int READ_LIMIT = 6;

    private static final int BARRED = 8, HELP = 9, AGAIN = 10;

    private static final int DOWN = 0, WAITING = 1, READY = 2, LOST = 3;
    private static final int NOT_YET = 0, BY_DIGIT = 1, BY_TIME = 2, BY_HAND = 3, BY_HELP = 4;
    private static final int NO_DIGITS = 0, FITS_NONE = 1, FITS_SOME = 2, STAGES = 3;
    private static final int TICKS_LIMIT = 99;

    private static final int PATTERN_TOLD = 6;
    private static final int LINE_TOLD = 8;
    private static final int COUNT_TOLD = 10;
    private static final int DIGITS_TOLD_FROM = 10;
    private static final int CLASH_FACTOR = 16;
    private static final long DIGEST_START = 1669L, DIGEST_FACTOR = 31L;

    private final Row page = new Row(PAGE_LIMIT);
    private final PatternText text = new PatternText();
    private final Plan plan = new Plan();
    private final Row written = new Row(ROW_LIMIT);
    private final Reading reading = new Reading();
    private final Line phone = new Line();

    public DialPlan() {
    }

    // ---- texts

    public int letter(int code) {
        if (code < 32 || code > 126) {
            return OUTSIDE;
        }
        return page.append(code) ? page.size() : FULL;
    }

    public int blank() {
        int had = page.size();
        page.clear();
        return had;
    }

    public int fault() {
        return text.scan(page);
    }

    public int add() {
        boolean isPattern = text.scan(page) == page.size() && text.isWhole();
        if (!isPattern || phone.isUp()) {
            return STATE;
        }
        if (!plan.append(text.draft())) {
            return FULL;
        }
        page.clear();
        return plan.size() - 1;
    }

    public int drop(int pattern) {
        if (plan.at(pattern) == null) {
            return UNKNOWN;
        }
        if (phone.isUp()) {
            return STATE;
        }
        plan.remove(pattern);
        return plan.size();
    }

    // ---- patterns

    public int pattern(int pattern, int what) {
        Pattern told = plan.at(pattern);
        if (told == null) {
            return UNKNOWN;
        }
        switch (what) {
            case 0: return told.places();
            case 1: return told.isOpen() ? 1 : 0;
            case 2: return told.way();
            case 3: return told.dropped();
            case 4: return told.ahead().size();
            case 5: return told.ahead().asNumber();
            default: return OUTSIDE;
        }
    }

    public int lets(int pattern, int place) {
        Pattern told = plan.at(pattern);
        if (told == null) {
            return UNKNOWN;
        }
        if (place < 0 || place >= ROW_LIMIT) {
            return OUTSIDE;
        }
        return told.digitsAt(place);
    }

    public int narrower(int one, int other) {
        Pattern first = plan.at(one);
        Pattern second = plan.at(other);
        if (first == null || second == null) {
            return UNKNOWN;
        }
        if (first.isNarrowerThan(second)) {
            return 0;
        }
        return second.isNarrowerThan(first) ? 1 : 2;
    }

    public int clash(int place) {
        int left = place;
        for (int lesser = 0; lesser < plan.size() && left >= 0; lesser++) {
            for (int greater = lesser + 1; greater < plan.size(); greater++) {
                if (plan.isClash(lesser, greater)) {
                    if (left == 0) {
                        return CLASH_FACTOR * lesser + greater;
                    }
                    left--;
                }
            }
        }
        return UNKNOWN;
    }

    // ---- rows of digits

    public int row(int what) {
        boolean isDigitTold = what >= DIGITS_TOLD_FROM && what < DIGITS_TOLD_FROM + ROW_LIMIT;
        if (!isDigitTold && (what < 0 || what > 5)) {
            return OUTSIDE;
        }
        if (!readsPageAsRow()) {
            return STATE;
        }
        switch (what) {
            case 0: return plan.winner(written, false);
            case 1: return plan.reached(written, Pattern.FITS);
            case 2: return plan.reached(written, Pattern.LEADS);
            default: break;
        }
        reading.read(plan, written);
        switch (what) {
            case 3: return reading.way();
            case 4: return reading.times();
            case 5: return reading.result().size();
            default: return reading.result().at(what - DIGITS_TOLD_FROM);
        }
    }

    /** Answers whether the page is a row; what is written is that row then. */
    private boolean readsPageAsRow() {
        written.clear();
        for (int i = 0; i < page.size(); i++) {
            if (!isFigure(page.at(i)) || !written.append(page.at(i) - '0')) {
                return false;
            }
        }
        return page.size() > 0;
    }

    private static boolean isFigure(int code) {
        return code >= '0' && code <= '9';
    }

    // ---- the line

    public int stage(int stage, int v) {
        if (stage < 0 || stage >= STAGES || v < 1 || v > TICKS_LIMIT) {
            return OUTSIDE;
        }
        int were = phone.ticksOf(stage);
        phone.setTicks(stage, v);
        return were;
    }

    public int lift() {
        if (phone.isUp()) {
            return STATE;
        }
        phone.putUp(plan);
        return phone.ticksLeft();
    }

    public int hang() {
        if (!phone.isUp()) {
            return STATE;
        }
        int pressed = phone.dialled().size();
        phone.putDown();
        return pressed;
    }

    public int press(int digit) {
        if (digit < 0 || digit > 9) {
            return OUTSIDE;
        }
        if (!phone.isWaiting()) {
            return STATE;
        }
        phone.take(digit, plan);
        return phone.state();
    }

    public int pass(int n) {
        if (n < 1 || n > TICKS_LIMIT) {
            return OUTSIDE;
        }
        if (!phone.isWaiting()) {
            return STATE;
        }
        phone.letTicksGo(n, plan);
        return phone.state();
    }

    public int end() {
        if (!phone.isWaiting()) {
            return STATE;
        }
        phone.settle(BY_HAND, plan);
        return phone.state();
    }

    public int line(int what) {
        if (what >= DIGITS_TOLD_FROM && what < DIGITS_TOLD_FROM + ROW_LIMIT) {
            return phone.dialled().at(what - DIGITS_TOLD_FROM);
        }
        switch (what) {
            case 0: return phone.state();
            case 1: return phone.dialled().size();
            case 2: return phone.ticksLeft();
            case 3: return phone.isWaiting() ? phone.currentStage(plan) : NONE;
            case 4: return phone.winner(plan);
            case 5: return plan.sureFrom(phone.dialled());
            case 6: return phone.ended();
            case 7: return wayOfTheLine();
            default: return OUTSIDE;
        }
    }

    private int wayOfTheLine() {
        if (phone.state() != READY) {
            return NONE;
        }
        if (phone.ended() == BY_HELP) {
            return HELP;
        }
        reading.read(plan, phone.dialled());
        return reading.way();
    }

    // ---- what is told of all

    public int count(int what) {
        switch (what) {
            case 0: return plan.size();
            case 1: return page.size();
            case 2: return plan.clashes();
            case 3: return phone.ticksOf(NO_DIGITS);
            case 4: return phone.ticksOf(FITS_NONE);
            case 5: return phone.ticksOf(FITS_SOME);
            case 6: return phone.timesLifted();
            case 7: return phone.timesReady();
            case 8: return phone.timesLost();
            case 9: return phone.digitsEver();
            default: return OUTSIDE;
        }
    }

    public long digest() {
        long h = digestOfPatterns(DIGEST_START);
        h = digestOfClashes(h);
        for (int what = 0; what < LINE_TOLD; what++) {
            h = DIGEST_FACTOR * h + line(what);
        }
        for (int place = 0; place < ROW_LIMIT; place++) {
            h = DIGEST_FACTOR * h + line(DIGITS_TOLD_FROM + place);
        }
        for (int i = 0; i < page.size(); i++) {
            h = DIGEST_FACTOR * h + page.at(i);
        }
        for (int what = 0; what < COUNT_TOLD; what++) {
            h = DIGEST_FACTOR * h + count(what);
        }
        return h;
    }

    private long digestOfPatterns(long start) {
        long h = start;
        for (int number = 0; number < plan.size(); number++) {
            for (int what = 0; what < PATTERN_TOLD; what++) {
                h = DIGEST_FACTOR * h + pattern(number, what);
            }
            for (int place = 0; place < ROW_LIMIT; place++) {
                h = DIGEST_FACTOR * h + lets(number, place);
            }
        }
        return h;
    }

    private long digestOfClashes(long start) {
        long h = start;
        for (int lesser = 0; lesser < plan.size(); lesser++) {
            for (int greater = lesser + 1; greater < plan.size(); greater++) {
                if (plan.isClash(lesser, greater)) {
                    h = DIGEST_FACTOR * h + (CLASH_FACTOR * lesser + greater);
                }
            }
        }
        return h;
    }

    /** Digits, or letters by their codes, one behind the other, up to a limit. */
    private static final class Row {
        private final int[] signs;
        private int size;

        Row(int limit) {
            signs = new int[Math.max(limit, 0)];
        }

        int size() {
            return size;
        }

        /** The sign at that place, or NONE. */
        int at(int place) {
            boolean isThere = place >= 0 && place < size && place < signs.length;
            return isThere ? signs[place] : NONE;
        }

        void clear() {
            size = 0;
        }

        /** Answers whether there was room for it. */
        boolean append(int sign) {
            if (size < 0 || size >= signs.length) {
                return false;
            }
            signs[size] = sign;
            size++;
            return true;
        }

        void copyFrom(Row other) {
            clear();
            for (int i = 0; i < other.size(); i++) {
                append(other.at(i));
            }
        }

        boolean isLike(Row other) {
            if (size != other.size) {
                return false;
            }
            for (int i = 0; i < size && i < signs.length && i < other.signs.length; i++) {
                if (signs[i] != other.signs[i]) {
                    return false;
                }
            }
            return true;
        }

        /** The digits as one number; 0, if there are none. */
        int asNumber() {
            int number = 0;
            for (int i = 0; i < size; i++) {
                number = 10 * number + at(i);
            }
            return number;
        }
    }

    /** What a pattern lets at each place, and what becomes of a row that it reads. */
    private static final class Pattern {
        private static final int FITS = 1, LEADS = 2;
        private static final int ALL_DIGITS = 1023;
        private static final int OPEN_WIDTH = 11;

        private final int[] masks = new int[ROW_LIMIT];
        private final int[] widths = new int[ROW_LIMIT];
        private final Row ahead = new Row(AHEAD_LIMIT);
        private int places;
        private boolean open;
        private int way;
        private int dropped;

        int places() {
            return places;
        }

        boolean isOpen() {
            return open;
        }

        int way() {
            return way;
        }

        int dropped() {
            return dropped;
        }

        Row ahead() {
            return ahead;
        }

        int digitsAt(int place) {
            return place >= 0 && place < masks.length ? masks[place] : 0;
        }

        void clear() {
            setFrom(0, 0, 0);
            ahead.clear();
            places = 0;
            open = false;
            way = 0;
            dropped = 0;
        }

        boolean hasRoom() {
            return places >= 0 && places < PLACE_LIMIT;
        }

        /** The digits from low to high are let at a further place. */
        void appendPlace(int low, int high) {
            if (places < 0 || places >= PLACE_LIMIT || places >= masks.length || places >= widths.length) {
                return;
            }
            int mask = 0;
            for (int digit = Math.max(low, 0); digit <= high && digit <= 9; digit++) {
                mask |= 1 << digit;
            }
            masks[places] = mask;
            widths[places] = Integer.bitCount(mask);
            places++;
        }

        void makeOpen() {
            open = true;
            setFrom(places, ALL_DIGITS, OPEN_WIDTH);
        }

        private void setFrom(int start, int mask, int width) {
            for (int i = Math.max(start, 0); i < masks.length && i < widths.length; i++) {
                masks[i] = mask;
                widths[i] = width;
            }
        }

        void setWay(int to) {
            way = to;
        }

        void setDropped(int to) {
            dropped = to;
        }

        void copyFrom(Pattern other) {
            for (int i = 0; i < masks.length && i < other.masks.length; i++) {
                masks[i] = other.masks[i];
            }
            for (int i = 0; i < widths.length && i < other.widths.length; i++) {
                widths[i] = other.widths[i];
            }
            ahead.copyFrom(other.ahead);
            places = other.places;
            open = other.open;
            way = other.way;
            dropped = other.dropped;
        }

        boolean isNarrowerThan(Pattern other) {
            for (int i = 0; i < widths.length && i < other.widths.length; i++) {
                if (widths[i] != other.widths[i]) {
                    return widths[i] < other.widths[i];
                }
            }
            return false;
        }

        /** Whether the first so many digits of the row fit, and whether they lead here, as bits. */
        int reach(Row row, int many) {
            for (int i = 0; i < many && i < places && i < masks.length; i++) {
                int digit = row.at(i);
                if (digit < 0 || (masks[i] >> digit & 1) == 0) {
                    return 0;
                }
            }
            int reach = 0;
            if (many == places || (open && many > places)) {
                reach |= FITS;
            }
            if (many < places || (open && many < ROW_LIMIT)) {
                reach |= LEADS;
            }
            return reach;
        }

        boolean doesLike(Pattern other) {
            return way == other.way && dropped == other.dropped && ahead.isLike(other.ahead);
        }

        boolean clashesWith(Pattern other) {
            return !isNarrowerThan(other) && !other.isNarrowerThan(this)
                && sharesRowWith(other) && !doesLike(other);
        }

        /** Asked only if neither is narrower: then both have as many places and are open or not alike. */
        private boolean sharesRowWith(Pattern other) {
            for (int i = 0; i < places; i++) {
                if ((digitsAt(i) & other.digitsAt(i)) == 0) {
                    return false;
                }
            }
            return true;
        }
    }

    /** Reads a page as a pattern, letter by letter, as far as some pattern begins like that. */
    private static final class PatternText {
        private static final int AT_PLACES = 0, AT_LOW = 1, AT_DASH = 2, AT_HIGH = 3, AT_BRACKET = 4;
        private static final int AT_EQUALS = 5, AT_WAY = 6, AT_COLON = 7, AT_DROP = 8, AT_AHEAD = 9;

        private final Pattern draft = new Pattern();
        private int step;
        private int low;
        private int high;

        Pattern draft() {
            return draft;
        }

        boolean isWhole() {
            return step == AT_AHEAD;
        }

        /** The place of the first letter that no pattern has there; the page's size, if there is none. */
        int scan(Row page) {
            draft.clear();
            step = AT_PLACES;
            for (int i = 0; i < page.size(); i++) {
                if (!take(page.at(i))) {
                    return i;
                }
            }
            return page.size();
        }

        private boolean take(int code) {
            switch (step) {
                case AT_PLACES: return takePlaceOrTail(code);
                case AT_LOW: return takeLow(code);
                case AT_DASH: return takeSign(code, '-', AT_HIGH);
                case AT_HIGH: return takeHigh(code);
                case AT_BRACKET: return takeBracket(code);
                case AT_EQUALS: return takeSign(code, '=', AT_WAY);
                case AT_WAY: return takeWay(code);
                case AT_COLON: return takeSign(code, ':', AT_DROP);
                case AT_DROP: return takeDrop(code);
                default: return takeAhead(code);
            }
        }

        private boolean takeSign(int code, int sign, int next) {
            if (code != sign) {
                return false;
            }
            step = next;
            return true;
        }

        private boolean takePlaceOrTail(int code) {
            if (draft.places() > 0 && code == '.') {
                draft.makeOpen();
                step = AT_EQUALS;
                return true;
            }
            if (draft.places() > 0 && code == '=') {
                step = AT_WAY;
                return true;
            }
            return draft.hasRoom() && takePlace(code);
        }

        private boolean takePlace(int code) {
            if (code == '[') {
                step = AT_LOW;
            } else if (code == 'N') {
                draft.appendPlace(2, 9);
            } else if (code == 'X') {
                draft.appendPlace(0, 9);
            } else if (isFigure(code)) {
                draft.appendPlace(code - '0', code - '0');
            } else {
                return false;
            }
            return true;
        }

        /** A span's end is greater than its start, so no span starts with 9. */
        private boolean takeLow(int code) {
            if (!isFigure(code) || code == '9') {
                return false;
            }
            low = code - '0';
            step = AT_DASH;
            return true;
        }

        private boolean takeHigh(int code) {
            if (!isFigure(code) || code - '0' <= low) {
                return false;
            }
            high = code - '0';
            step = AT_BRACKET;
            return true;
        }

        private boolean takeBracket(int code) {
            if (code != ']') {
                return false;
            }
            draft.appendPlace(low, high);
            step = AT_PLACES;
            return true;
        }

        private boolean takeWay(int code) {
            int way = wayOf(code);
            if (way == NONE) {
                return false;
            }
            draft.setWay(way);
            step = AT_COLON;
            return true;
        }

        private static int wayOf(int code) {
            if (code >= 'a' && code <= 'h') {
                return code - 'a';
            }
            switch (code) {
                case '-': return BARRED;
                case '!': return HELP;
                case '*': return AGAIN;
                default: return NONE;
            }
        }

        private boolean takeDrop(int code) {
            if (!isFigure(code) || code - '0' > draft.places()) {
                return false;
            }
            draft.setDropped(code - '0');
            step = AT_AHEAD;
            return true;
        }

        private boolean takeAhead(int code) {
            return isFigure(code) && draft.ahead().append(code - '0');
        }
    }

    /** The patterns, by their numbers; the objects behind the last one wait to be used again. */
    private static final class Plan {
        private final Pattern[] patterns = new Pattern[PLAN_LIMIT];
        private int size;

        Plan() {
            for (int i = 0; i < patterns.length; i++) {
                patterns[i] = new Pattern();
            }
        }

        int size() {
            return size;
        }

        /** The pattern of that number, or null. */
        Pattern at(int number) {
            boolean isThere = number >= 0 && number < size && number < patterns.length;
            return isThere ? patterns[number] : null;
        }

        /** Answers whether there was room for it. */
        boolean append(Pattern draft) {
            if (size < 0 || size >= patterns.length) {
                return false;
            }
            Pattern fresh = patterns[size];
            if (fresh == null) {
                return false;
            }
            fresh.copyFrom(draft);
            size++;
            return true;
        }

        void remove(int number) {
            if (number < 0 || number >= size || size > patterns.length) {
                return;
            }
            Pattern gone = patterns[number];
            for (int i = number; i + 1 < size; i++) {
                patterns[i] = patterns[i + 1];
            }
            size--;
            patterns[size] = gone;
        }

        /** Which patterns the row reaches in that way (FITS or LEADS), as bits. */
        int reached(Row row, int how) {
            int bits = 0;
            for (int i = 0; i < size; i++) {
                Pattern pattern = at(i);
                if (pattern != null && (pattern.reach(row, row.size()) & how) != 0) {
                    bits |= 1 << i;
                }
            }
            return bits;
        }

        /** The number of the pattern that wins the row, of all or of those for help alone, or NONE. */
        int winner(Row row, boolean helpAlone) {
            int best = NONE;
            Pattern narrowest = null;
            for (int i = 0; i < size; i++) {
                Pattern pattern = at(i);
                if (pattern == null || (helpAlone && pattern.way() != HELP)
                    || (pattern.reach(row, row.size()) & Pattern.FITS) == 0) {
                    continue;
                }
                if (narrowest == null || pattern.isNarrowerThan(narrowest)) {
                    narrowest = pattern;
                    best = i;
                }
            }
            return best;
        }

        /** The least number of first digits from which on all that is possible does alike, or NONE. */
        int sureFrom(Row row) {
            for (int many = 0; many <= row.size(); many++) {
                if (isSureBy(row, many)) {
                    return many;
                }
            }
            return NONE;
        }

        private boolean isSureBy(Row row, int many) {
            Pattern first = null;
            for (int i = 0; i < size; i++) {
                Pattern pattern = at(i);
                if (pattern == null || pattern.reach(row, many) == 0) {
                    continue;
                }
                if (first == null) {
                    first = pattern;
                } else if (!pattern.doesLike(first)) {
                    return false;
                }
            }
            return first != null;
        }

        boolean isClash(int one, int other) {
            Pattern first = at(one);
            Pattern second = at(other);
            return first != null && second != null && first.clashesWith(second);
        }

        int clashes() {
            int many = 0;
            for (int lesser = 0; lesser < size; lesser++) {
                for (int greater = lesser + 1; greater < size; greater++) {
                    if (isClash(lesser, greater)) {
                        many++;
                    }
                }
            }
            return many;
        }
    }

    /** A row that is read, and again as it is rewritten, till that ends. */
    private static final class Reading {
        private final Row now = new Row(ROW_LIMIT);
        private final Row next = new Row(ROW_LIMIT);
        private int way = NONE;
        private int times;

        /** NONE if it failed. */
        int way() {
            return way;
        }

        int times() {
            return times;
        }

        /** No digits if it failed. */
        Row result() {
            return now;
        }

        void read(Plan plan, Row row) {
            now.copyFrom(row);
            way = NONE;
            times = 0;
            while (times < READ_LIMIT) {
                times++;
                Pattern by = plan.at(plan.winner(now, false));
                if (by == null || !rewrite(by)) {
                    break;
                }
                if (by.way() != AGAIN) {
                    way = by.way();
                    return;
                }
            }
            now.clear();
        }

        /** Answers whether what comes of it is a row. */
        private boolean rewrite(Pattern by) {
            next.copyFrom(by.ahead());
            boolean hasRoom = true;
            for (int i = by.dropped(); i < now.size(); i++) {
                hasRoom = next.append(now.at(i)) && hasRoom;
            }
            now.copyFrom(next);
            return hasRoom && now.size() > 0;
        }
    }

    /** The line; the plan cannot change while it is up, so what the plan tells of its digits stays. */
    private static final class Line {
        private final Row dialled = new Row(ROW_LIMIT);
        private final int[] stageTicks = {15, 8, 4};
        private int state = DOWN;
        private int ended = NOT_YET;
        private int ticksLeft;
        private int timesLifted;
        private int timesReady;
        private int timesLost;
        private int digitsEver;

        Row dialled() {
            return dialled;
        }

        int state() {
            return state;
        }

        boolean isUp() {
            return state != DOWN;
        }

        boolean isWaiting() {
            return state == WAITING;
        }

        int ended() {
            return ended;
        }

        int ticksLeft() {
            return ticksLeft;
        }

        int timesLifted() {
            return timesLifted;
        }

        int timesReady() {
            return timesReady;
        }

        int timesLost() {
            return timesLost;
        }

        int digitsEver() {
            return digitsEver;
        }

        int ticksOf(int stage) {
            return stage >= 0 && stage < stageTicks.length ? stageTicks[stage] : 0;
        }

        void setTicks(int stage, int ticks) {
            if (stage >= 0 && stage < stageTicks.length) {
                stageTicks[stage] = ticks;
            }
        }

        int currentStage(Plan plan) {
            if (dialled.size() == 0) {
                return NO_DIGITS;
            }
            return plan.reached(dialled, Pattern.FITS) == 0 ? FITS_NONE : FITS_SOME;
        }

        /** The pattern that wins the digits, or NONE while they are not ready. */
        int winner(Plan plan) {
            return state == READY ? plan.winner(dialled, ended == BY_HELP) : NONE;
        }

        void putUp(Plan plan) {
            timesLifted++;
            goOnWaiting(plan);
        }

        /** Forgets the digits and how they ended, so that it is as new when it is lifted again. */
        void putDown() {
            dialled.clear();
            ended = NOT_YET;
            ticksLeft = 0;
            state = DOWN;
        }

        void take(int digit, Plan plan) {
            if (!dialled.append(digit)) {
                return;
            }
            digitsEver++;
            boolean criesForHelp = plan.winner(dialled, true) != NONE;
            boolean isLast = dialled.size() >= ROW_LIMIT || plan.reached(dialled, Pattern.LEADS) == 0;
            if (criesForHelp) {
                settle(BY_HELP, plan);
            } else if (isLast) {
                settle(BY_DIGIT, plan);
            } else {
                goOnWaiting(plan);
            }
        }

        void letTicksGo(int ticks, Plan plan) {
            if (ticks < ticksLeft) {
                ticksLeft -= ticks;
            } else {
                settle(BY_TIME, plan);
            }
        }

        private void goOnWaiting(Plan plan) {
            state = WAITING;
            ticksLeft = ticksOf(currentStage(plan));
        }

        /** The waiting ends: ready if the digits fit some pattern, else lost. */
        void settle(int how, Plan plan) {
            ended = how;
            ticksLeft = 0;
            if (plan.reached(dialled, Pattern.FITS) != 0) {
                state = READY;
                timesReady++;
            } else {
                state = LOST;
                timesLost++;
            }
        }
    }
}
