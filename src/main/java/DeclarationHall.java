import java.util.Arrays;

/**
 * A great declaration: the houses of a city declare in texts what they have, owe and whom they feed;
 * what each is worth and pays can be asked as it was known on any day; loans are levied by exact shares.
 */
public final class DeclarationHall {
    public static final int BAD = -1000000001, NO = -1000000002, FULL = -1000000003, NONE = -1000000005;

    private static final int HOUSES = 10, PLOTS = 12, CLASSES = 3, LAST_YEAR = 30;
    private static final int LAST_DAY = 100000, MOST_DAYS_AT_ONCE = 1000, MOST_AREA = 2000;

    private static final int KIND_LINE = 0, LAND = 1, GOODS = 2, HEADS = 3, OWES = 4, LENT = 5;
    private static final int DEBT = 6, PROPERTY = 7, NO_KIND = -1;
    private static final int MOST_LINES = 100, MOST_APPEALS = 8;

    private static final int TAPE_BYTES = 60, FEED_BYTES = 12, BLANK = 32, COMMA = 44, ZERO = 48;
    // The shortest line ("goods 1") has 7 bytes and needs a comma ahead of the next one, so 60 bytes hold 7.
    private static final int MOST_LINES_OF_TEXT = 8;
    private static final int NO_FAULT = -1, FIRST_FAULT = -100, BEYOND_ANY_NUMBER = 100000;

    private static final int MOST_WORDS = 40, MOST_DECREES = 40;
    private static final int ITEMS = 6, ALLOWANCE = 3, DEBTS_COUNT = 4, RATE = 5;
    private static final int[] VALUE_AT_FIRST = {1, 1, 1, 0, 1, 100};
    private static final int[] MOST_VALUE = {100, 100, 100, 1000, 1, 1000};

    private static final int NO_QUARREL = 0, UNMEASURED = 1, TOO_MUCH = 2, TOLD_OF_ANOTHER = 3;
    private static final int OWES_UNMATCHED = 4, LENT_UNMATCHED = 5;

    private static final int MOST_LOANS = 6, MOST_SUM = 100000;
    private static final int SHARE = 0, PAID = 1, CREDIT = 2;

    // Every line, appeal, word and decree could fall on a day of its own.
    private static final int MOST_CHANGES = MOST_LINES + MOST_LINES * MOST_APPEALS + MOST_WORDS + MOST_DECREES;

    private final Calendar calendar;
    private final Plots plots;
    private final Tape tape;
    private final Reader reader;
    private final Lines lines;
    private final Words words;
    private final Decrees decrees;
    private final Reckoning reckoning;
    private final Loans loans;
    private final int[] worthsBefore;

    public DeclarationHall() {
        calendar = new Calendar();
        plots = new Plots();
        tape = new Tape();
        reader = new Reader(tape);
        lines = new Lines();
        words = new Words();
        decrees = new Decrees();
        reckoning = new Reckoning(plots, lines, words, decrees);
        loans = new Loans();
        worthsBefore = new int[HOUSES];
    }

    // ---- days, plots

    public int days(int n) {
        if (!isWithin(n, 0, MOST_DAYS_AT_ONCE) || calendar.today + n > LAST_DAY) {
            return BAD;
        }
        calendar.today += n;
        return calendar.today;
    }

    public int measure(int plot, int area, int klass) {
        if (!isPlot(plot) || !isWithin(area, 1, MOST_AREA) || !isWithin(klass, 0, CLASSES - 1)) {
            return BAD;
        }
        int before = plots.areas[plot];
        plots.areas[plot] = area;
        plots.classes[plot] = klass;
        return before;
    }

    // ---- texts

    public int feed(int a, int b, int c) {
        if (tape.length + FEED_BYTES > TAPE_BYTES) {
            return FULL;
        }
        tape.append(a);
        tape.append(b);
        tape.append(c);
        return tape.length;
    }

    public int trim(int n) {
        if (!isWithin(n, 0, tape.length)) {
            return BAD;
        }
        tape.length = n;
        return n;
    }

    public int declare(int house, int year) {
        int answer = declareTape(house, year);
        tape.length = 0;
        return answer;
    }

    public int line(int line, int what) {
        if (!lines.has(line)) {
            return BAD;
        }
        switch (what) {
            case 0: return lines.kinds[line];
            case 1: return lines.houses[line];
            case 2: return lines.years[line];
            case 3: return lines.days[line];
            case 4: return lines.others[line];
            case 5: return lines.numbers[line];
            case 6: return lines.appeals[line];
            default: return BAD;
        }
    }

    public int isOf(int line, int kind) {
        if (!lines.has(line) || !isWithin(kind, KIND_LINE, PROPERTY)) {
            return BAD;
        }
        return isKindOf(lines.kinds[line], kind) ? 1 : 0;
    }

    public int appeal(int line, int strike) {
        if (!lines.has(line) || !isWithin(strike, 0, 1)) {
            return BAD;
        }
        boolean mustStand = strike == 1;
        if (lines.standsOn(line, calendar.today) != mustStand) {
            return NO;
        }
        if (lines.appeals[line] >= MOST_APPEALS) {
            return FULL;
        }
        lines.addAppeal(line, calendar.today);
        calendar.noteChange();
        return lines.appeals[line];
    }

    public int stands(int line, int day) {
        if (!lines.has(line) || !isDay(day)) {
            return BAD;
        }
        return lines.standsOn(line, day) ? 1 : 0;
    }

    // ---- neighbours, decrees

    public int says(int house, int plot, int of) {
        if (!isHouse(house) || !isPlot(plot) || !isHouse(of)) {
            return BAD;
        }
        if (words.count >= MOST_WORDS) {
            return FULL;
        }
        words.add(house, plot, of, calendar.today);
        calendar.noteChange();
        return words.count;
    }

    public int toldOf(int plot, int day) {
        if (!isPlot(plot) || !isDay(day)) {
            return BAD;
        }
        return words.houseTold(plot, day);
    }

    public int decree(int item, int year, int value) {
        if (!isItem(item) || !isYear(year) || !isWithin(value, 0, MOST_VALUE[item])) {
            return BAD;
        }
        if (decrees.count >= MOST_DECREES) {
            return FULL;
        }
        decrees.add(item, year, value, calendar.today);
        calendar.noteChange();
        return decrees.count;
    }

    public int holds(int item, int year, int day) {
        if (!isItem(item) || !isYear(year) || !isDay(day)) {
            return BAD;
        }
        return decrees.valueHeld(item, year, day);
    }

    // ---- as known on a day

    public int match(int line, int day) {
        if (!lines.has(line) || !isDay(day)) {
            return BAD;
        }
        if (!isKindOf(lines.kinds[line], DEBT)) {
            return NO;
        }
        reckoning.reckon(lines.years[line], day);
        return reckoning.partners[line];
    }

    public int quarrel(int line, int day) {
        if (!lines.has(line) || !isDay(day)) {
            return BAD;
        }
        reckoning.reckon(lines.years[line], day);
        return reckoning.quarrels[line];
    }

    public int quarrels(int year, int day) {
        if (!isYear(year) || !isDay(day)) {
            return BAD;
        }
        reckoning.reckon(year, day);
        return reckoning.quarrelCount();
    }

    public int worth(int house, int year, int day) {
        if (!isHouse(house) || !isYear(year) || !isDay(day)) {
            return BAD;
        }
        return worthKnown(house, year, day);
    }

    public int tax(int house, int year, int day) {
        if (!isHouse(house) || !isYear(year) || !isDay(day)) {
            return BAD;
        }
        reckoning.reckon(year, day);
        return reckoning.taxOf(house);
    }

    public int taxes(int year, int day) {
        if (!isYear(year) || !isDay(day)) {
            return BAD;
        }
        reckoning.reckon(year, day);
        int all = 0;
        for (int house = 0; house < HOUSES; house++) {
            all += reckoning.taxOf(house);
        }
        return all;
    }

    public int since(int house, int year) {
        if (!isHouse(house) || !isYear(year)) {
            return BAD;
        }
        int worthToday = worthKnown(house, year, calendar.today);
        // Between two days of change nothing new is known, so one look at the day ahead of each is enough.
        for (int i = calendar.changes - 1; i >= 0; i--) {
            int changeDay = calendar.changeDays[i];
            if (changeDay > 0 && worthKnown(house, year, changeDay - 1) != worthToday) {
                return changeDay;
            }
        }
        return 0;
    }

    public int differs(int year, int day, int other) {
        if (!isYear(year) || !isDay(day) || !isDay(other)) {
            return BAD;
        }
        reckoning.reckon(year, day);
        System.arraycopy(reckoning.worths, 0, worthsBefore, 0, HOUSES);
        reckoning.reckon(year, other);
        for (int house = 0; house < HOUSES; house++) {
            if (reckoning.worths[house] != worthsBefore[house]) {
                return house;
            }
        }
        return NONE;
    }

    // ---- loans

    public int levy(int sum, int year) {
        if (!isWithin(sum, 1, MOST_SUM) || !isYear(year)) {
            return BAD;
        }
        reckoning.reckon(year, calendar.today);
        if (sumOf(reckoning.worths) == 0) {
            return NO;
        }
        if (loans.count >= MOST_LOANS) {
            return FULL;
        }
        loans.add(sum, reckoning.worths);
        return loans.count - 1;
    }

    public int loan(int loan, int house, int what) {
        if (!loans.has(loan) || !isHouse(house)) {
            return BAD;
        }
        int at = Loans.placeOf(loan, house);
        switch (what) {
            case SHARE: return loans.shares[at];
            case PAID: return loans.paid[at];
            case CREDIT: return loans.credits[at];
            default: return BAD;
        }
    }

    public int pay(int loan, int house, int n) {
        if (!loans.has(loan) || !isHouse(house) || !isWithin(n, 1, MOST_SUM)) {
            return BAD;
        }
        int at = Loans.placeOf(loan, house);
        int left = loans.shares[at] - loans.paid[at];
        if (left <= 0) {
            return NO;
        }
        int paidNow = Math.min(n, left);
        loans.paid[at] += paidNow;
        loans.credits[at] += paidNow;
        return paidNow;
    }

    public int sell(int loan, int house, int to, int n) {
        if (!loans.has(loan) || !isHouse(house) || !isHouse(to) || house == to || !isWithin(n, 1, MOST_SUM)) {
            return BAD;
        }
        int from = Loans.placeOf(loan, house);
        int at = Loans.placeOf(loan, to);
        if (loans.credits[from] < n) {
            return NO;
        }
        loans.credits[from] -= n;
        loans.credits[at] += n;
        return loans.credits[at];
    }

    public int count(int what) {
        switch (what) {
            case 0: return lines.count;
            case 1: return words.count;
            case 2: return decrees.count;
            case 3: return loans.count;
            case 4: return tape.length;
            case 5: return calendar.today;
            case 6: return plots.measuredCount();
            case 7: return sumOf(loans.credits);
            default: return BAD;
        }
    }

    // ---- what the calls share

    private int declareTape(int house, int year) {
        if (!isHouse(house) || !isYear(year)) {
            return BAD;
        }
        int fault = reader.readText(house);
        if (fault != NO_FAULT) {
            return FIRST_FAULT - fault;
        }
        if (lines.count + reader.count > MOST_LINES) {
            return FULL;
        }
        for (int i = 0; i < reader.count; i++) {
            lines.add(house, year, calendar.today);
            lines.tell(reader.kinds[i], reader.others[i], reader.numbers[i]);
        }
        calendar.noteChange();
        return reader.count;
    }

    private int worthKnown(int house, int year, int day) {
        reckoning.reckon(year, day);
        return reckoning.worths[house];
    }

    private static boolean isWithin(int n, int least, int most) {
        return n >= least && n <= most;
    }

    private static boolean isHouse(int n) {
        return isWithin(n, 0, HOUSES - 1);
    }

    private static boolean isPlot(int n) {
        return isWithin(n, 0, PLOTS - 1);
    }

    private static boolean isYear(int n) {
        return isWithin(n, 0, LAST_YEAR);
    }

    private static boolean isDay(int n) {
        return isWithin(n, 0, LAST_DAY);
    }

    private static boolean isItem(int n) {
        return isWithin(n, 0, ITEMS - 1);
    }

    private static boolean isKindOf(int own, int kind) {
        switch (kind) {
            case KIND_LINE: return true;
            case DEBT: return own == OWES || own == LENT;
            case PROPERTY: return own == LAND || own == GOODS || own == LENT;
            default: return own == kind;
        }
    }

    private static int sumOf(int[] numbers) {
        int sum = 0;
        for (int n : numbers) {
            sum += n;
        }
        return sum;
    }

    /** Today, and the days on which something became known, each once and in order. */
    private static final class Calendar {
        private final int[] changeDays = new int[MOST_CHANGES];
        private int changes;
        private int today;

        void noteChange() {
            boolean noted = changes > 0 && changeDays[changes - 1] == today;
            if (!noted && changes < MOST_CHANGES) {
                changeDays[changes] = today;
                changes++;
            }
        }
    }

    private static final class Plots {
        private final int[] areas = new int[PLOTS];
        private final int[] classes = new int[PLOTS];

        int measuredCount() {
            int measured = 0;
            for (int area : areas) {
                if (area > 0) {
                    measured++;
                }
            }
            return measured;
        }
    }

    private static final class Tape {
        private final int[] bytes = new int[TAPE_BYTES];
        private int length;

        void append(int number) {
            for (int shift = 24; shift >= 0; shift -= 8) {
                if (length < TAPE_BYTES) {
                    bytes[length] = (number >>> shift) & 255;
                    length++;
                }
            }
        }

        boolean isPartOfWord(int place) {
            return bytes[place] != BLANK && bytes[place] != COMMA;
        }
    }

    /** Reads a text from the tape; what it read is kept until the next text. */
    private static final class Reader {
        private final Tape tape;
        private final int[] kinds = new int[MOST_LINES_OF_TEXT];
        private final int[] others = new int[MOST_LINES_OF_TEXT];
        private final int[] numbers = new int[MOST_LINES_OF_TEXT];
        private int count;
        // The token is a word, a comma, or nothing at the end of the tape.
        private int tokenStart;
        private int tokenEnd;
        private int fault;

        Reader(Tape tape) {
            this.tape = tape;
        }

        /** Answers the place of the first fault of a house's text, or NO_FAULT. */
        int readText(int house) {
            count = 0;
            tokenEnd = 0;
            fault = NO_FAULT;
            boolean more = true;
            for (int i = 0; more && i < MOST_LINES_OF_TEXT; i++) {
                readLine(house);
                more = fault == NO_FAULT && isAnotherAhead();
            }
            return fault;
        }

        private void readLine(int house) {
            int kind = readKind();
            int other = NONE;
            if (kind == LAND) {
                other = readNumber(0, PLOTS - 1);
            }
            if (isKindOf(kind, DEBT)) {
                other = readOtherHouse(house);
            }
            int number = fault == NO_FAULT ? readNumber(1, mostOfKind(kind)) : NONE;
            if (fault == NO_FAULT && count < MOST_LINES_OF_TEXT) {
                kinds[count] = kind;
                others[count] = other;
                numbers[count] = number;
                count++;
            }
        }

        private int readKind() {
            nextToken();
            for (int kind = LAND; kind <= LENT; kind++) {
                if (tokenIs(wordOfKind(kind))) {
                    return kind;
                }
            }
            fault = tokenStart;
            return NO_KIND;
        }

        private int readOtherHouse(int house) {
            int other = readNumber(0, HOUSES - 1);
            if (other == house) {
                fault = tokenStart;
            }
            return other;
        }

        private int readNumber(int least, int most) {
            nextToken();
            int value = tokenValue();
            if (value < least || value > most) {
                fault = tokenStart;
                return NONE;
            }
            return value;
        }

        /** Behind a line only a comma, which asks for another line, or the end can stand. */
        private boolean isAnotherAhead() {
            nextToken();
            if (tokenStart >= tape.length) {
                return false;
            }
            if (tape.isPartOfWord(tokenStart)) {
                fault = tokenStart;
                return false;
            }
            return true;
        }

        private void nextToken() {
            int place = tokenEnd;
            while (place < tape.length && tape.bytes[place] == BLANK) {
                place++;
            }
            tokenStart = place;
            while (place < tape.length && tape.isPartOfWord(place)) {
                place++;
            }
            boolean isComma = place == tokenStart && place < tape.length;
            tokenEnd = isComma ? place + 1 : place;
        }

        private boolean tokenIs(String word) {
            if (tokenEnd - tokenStart != word.length()) {
                return false;
            }
            for (int i = 0; i < word.length(); i++) {
                if (tape.bytes[tokenStart + i] != word.charAt(i)) {
                    return false;
                }
            }
            return true;
        }

        /** The number that the token is; -1 if it is none. */
        private int tokenValue() {
            if (tokenStart >= tokenEnd) {
                return -1;
            }
            int value = 0;
            for (int i = tokenStart; i < tokenEnd; i++) {
                int digit = tape.bytes[i] - ZERO;
                if (digit < 0 || digit > 9) {
                    return -1;
                }
                // A text can hold more digits than an int.
                value = Math.min(value * 10 + digit, BEYOND_ANY_NUMBER);
            }
            return value;
        }

        private static String wordOfKind(int kind) {
            switch (kind) {
                case LAND: return "land";
                case GOODS: return "goods";
                case HEADS: return "heads";
                case OWES: return "owes";
                default: return "lent";
            }
        }

        private static int mostOfKind(int kind) {
            switch (kind) {
                case LAND: return 500;
                case HEADS: return 50;
                default: return 9999;
            }
        }
    }

    private static final class Lines {
        private final int[] kinds = new int[MOST_LINES];
        private final int[] houses = new int[MOST_LINES];
        private final int[] years = new int[MOST_LINES];
        private final int[] days = new int[MOST_LINES];
        private final int[] others = new int[MOST_LINES];
        private final int[] numbers = new int[MOST_LINES];
        private final int[] appeals = new int[MOST_LINES];
        private final int[] appealDays = new int[MOST_LINES * MOST_APPEALS];
        private int count;

        boolean has(int line) {
            return isWithin(line, 0, count - 1);
        }

        void add(int house, int year, int day) {
            if (count < MOST_LINES) {
                houses[count] = house;
                years[count] = year;
                days[count] = day;
                count++;
            }
        }

        /** What the line that was added last tells. */
        void tell(int kind, int other, int number) {
            if (count > 0) {
                kinds[count - 1] = kind;
                others[count - 1] = other;
                numbers[count - 1] = number;
            }
        }

        void addAppeal(int line, int day) {
            if (appeals[line] < MOST_APPEALS) {
                appealDays[line * MOST_APPEALS + appeals[line]] = day;
                appeals[line]++;
            }
        }

        boolean standsOn(int line, int day) {
            if (days[line] > day) {
                return false;
            }
            // Only a line that stands is struck, and only a struck one let stand again: they take turns.
            boolean stands = true;
            for (int i = 0; i < appeals[line]; i++) {
                if (appealDays[line * MOST_APPEALS + i] <= day) {
                    stands = !stands;
                }
            }
            return stands;
        }
    }

    private static final class Words {
        private final int[] houses = new int[MOST_WORDS];
        private final int[] plotsTold = new int[MOST_WORDS];
        private final int[] owners = new int[MOST_WORDS];
        private final int[] days = new int[MOST_WORDS];
        private final int[] latest = new int[HOUSES];
        private final int[] votes = new int[HOUSES];
        private int count;

        void add(int house, int plot, int owner, int day) {
            if (count < MOST_WORDS) {
                houses[count] = house;
                plotsTold[count] = plot;
                owners[count] = owner;
                days[count] = day;
                count++;
            }
        }

        int houseTold(int plot, int day) {
            findLatest(plot, day);
            int all = countVotes();
            for (int house = 0; house < HOUSES; house++) {
                if (2 * votes[house] > all) {
                    return house;
                }
            }
            return NONE;
        }

        private void findLatest(int plot, int day) {
            Arrays.fill(latest, NONE);
            for (int i = 0; i < count; i++) {
                if (plotsTold[i] == plot && days[i] <= day) {
                    latest[houses[i]] = owners[i];
                }
            }
        }

        /** A house whose latest word is of itself has no vote: nor does an older word of it come back. */
        private int countVotes() {
            Arrays.fill(votes, 0);
            int all = 0;
            for (int house = 0; house < HOUSES; house++) {
                int owner = latest[house];
                if (owner != NONE && owner != house) {
                    votes[owner]++;
                    all++;
                }
            }
            return all;
        }
    }

    private static final class Decrees {
        private final int[] items = new int[MOST_DECREES];
        private final int[] years = new int[MOST_DECREES];
        private final int[] values = new int[MOST_DECREES];
        private final int[] days = new int[MOST_DECREES];
        private int count;

        void add(int item, int year, int value, int day) {
            if (count < MOST_DECREES) {
                items[count] = item;
                years[count] = year;
                values[count] = value;
                days[count] = day;
                count++;
            }
        }

        int valueHeld(int item, int year, int day) {
            int value = VALUE_AT_FIRST[item];
            int latestYear = 0;
            for (int i = 0; i < count; i++) {
                boolean isKnown = items[i] == item && days[i] <= day;
                if (isKnown && isWithin(years[i], latestYear, year)) {
                    value = values[i];
                    latestYear = years[i];
                }
            }
            return value;
        }
    }

    /** What is known of one year on one day; it stays until the next reckoning. */
    private static final class Reckoning {
        private final Plots plots;
        private final Lines lines;
        private final Words words;
        private final Decrees decrees;
        // By lines: the line it is matched with (NONE), its quarrel (NONE: it has no part in this year and day).
        private final int[] partners = new int[MOST_LINES];
        private final int[] quarrels = new int[MOST_LINES];
        private final int[] landTold = new int[PLOTS];
        private final int[] housesTold = new int[PLOTS];
        private final int[] valuesHeld = new int[ITEMS];
        private final int[] worths = new int[HOUSES];

        Reckoning(Plots plots, Lines lines, Words words, Decrees decrees) {
            this.plots = plots;
            this.lines = lines;
            this.words = words;
            this.decrees = decrees;
        }

        void reckon(int year, int day) {
            takeLines(year, day);
            for (int plot = 0; plot < PLOTS; plot++) {
                housesTold[plot] = words.houseTold(plot, day);
            }
            for (int item = 0; item < ITEMS; item++) {
                valuesHeld[item] = decrees.valueHeld(item, year, day);
            }
            matchDebts();
            findDebtQuarrels();
            findLandQuarrels();
            sumWorths();
        }

        int quarrelCount() {
            int found = 0;
            for (int line = 0; line < lines.count; line++) {
                if (quarrels[line] != NONE && quarrels[line] != NO_QUARREL) {
                    found++;
                }
            }
            return found;
        }

        int taxOf(int house) {
            return (int) ((long) worths[house] * valuesHeld[RATE] / 1000);
        }

        private void takeLines(int year, int day) {
            for (int line = 0; line < lines.count; line++) {
                boolean isTaken = lines.years[line] == year && lines.standsOn(line, day);
                quarrels[line] = isTaken ? NO_QUARREL : NONE;
                partners[line] = NONE;
            }
        }

        private void matchDebts() {
            for (int owes = 0; owes < lines.count; owes++) {
                if (quarrels[owes] != NONE && lines.kinds[owes] == OWES) {
                    matchOwes(owes);
                }
            }
        }

        private void matchOwes(int owes) {
            for (int lent = 0; lent < lines.count; lent++) {
                if (isFreeLentOf(lent, owes)) {
                    partners[owes] = lent;
                    partners[lent] = owes;
                    return;
                }
            }
        }

        private boolean isFreeLentOf(int lent, int owes) {
            return quarrels[lent] != NONE && lines.kinds[lent] == LENT && partners[lent] == NONE
                && lines.houses[lent] == lines.others[owes] && lines.others[lent] == lines.houses[owes]
                && lines.numbers[lent] == lines.numbers[owes];
        }

        private void findDebtQuarrels() {
            for (int line = 0; line < lines.count; line++) {
                if (quarrels[line] != NONE && partners[line] == NONE) {
                    quarrels[line] = quarrelOfUnmatched(lines.kinds[line]);
                }
            }
        }

        private static int quarrelOfUnmatched(int kind) {
            switch (kind) {
                case OWES: return OWES_UNMATCHED;
                case LENT: return LENT_UNMATCHED;
                default: return NO_QUARREL;
            }
        }

        private void findLandQuarrels() {
            Arrays.fill(landTold, 0);
            for (int line = 0; line < lines.count; line++) {
                if (quarrels[line] != NONE && lines.kinds[line] == LAND) {
                    quarrels[line] = tellLand(lines.others[line], lines.numbers[line], lines.houses[line]);
                }
            }
        }

        /** The quarrel of so much land that a house tells; only land without one fills up the plot. */
        private int tellLand(int plot, int number, int house) {
            if (!isPlot(plot) || plots.areas[plot] == 0) {
                return UNMEASURED;
            }
            if (landTold[plot] + number > plots.areas[plot]) {
                return TOO_MUCH;
            }
            if (housesTold[plot] != NONE && housesTold[plot] != house) {
                return TOLD_OF_ANOTHER;
            }
            landTold[plot] += number;
            return NO_QUARREL;
        }

        private void sumWorths() {
            Arrays.fill(worths, 0);
            for (int line = 0; line < lines.count; line++) {
                if (quarrels[line] == NO_QUARREL) {
                    worths[lines.houses[line]] += valueOfLine(line);
                }
            }
            for (int house = 0; house < HOUSES; house++) {
                worths[house] = Math.max(worths[house], 0);
            }
        }

        private int valueOfLine(int line) {
            int number = lines.numbers[line];
            int plot = lines.others[line];
            switch (lines.kinds[line]) {
                case LAND: return isPlot(plot) ? number * valuesHeld[plots.classes[plot]] : 0;
                case HEADS: return -number * valuesHeld[ALLOWANCE];
                case OWES: return -number * valuesHeld[DEBTS_COUNT];
                case LENT: return number * valuesHeld[DEBTS_COUNT];
                default: return number;
            }
        }
    }

    /** Loans by houses: each row has a place for every house of every loan. */
    private static final class Loans {
        private final int[] shares = new int[MOST_LOANS * HOUSES];
        private final int[] paid = new int[MOST_LOANS * HOUSES];
        private final int[] credits = new int[MOST_LOANS * HOUSES];
        private final long[] rests = new long[HOUSES];
        private int count;

        static int placeOf(int loan, int house) {
            return loan * HOUSES + house;
        }

        boolean has(int loan) {
            return isWithin(loan, 0, count - 1);
        }

        void add(int sum, int[] worths) {
            int all = sumOf(worths);
            if (all <= 0 || count >= MOST_LOANS) {
                return;
            }
            int left = sum;
            for (int house = 0; house < HOUSES; house++) {
                long part = (long) sum * worths[house];
                int share = (int) (part / all);
                shares[placeOf(count, house)] = share;
                rests[house] = part % all;
                left -= share;
            }
            spread(left);
            count++;
        }

        /** The rests together are left times all worths, and each is less than those: no house gets two. */
        private void spread(int left) {
            for (int i = 0; i < left && i < HOUSES; i++) {
                int house = houseOfGreatestRest();
                shares[placeOf(count, house)]++;
                rests[house] = -1;
            }
        }

        private int houseOfGreatestRest() {
            int greatest = 0;
            for (int house = 1; house < HOUSES; house++) {
                if (rests[house] > rests[greatest]) {
                    greatest = house;
                }
            }
            return greatest;
        }
    }
}
