/** Promises 15 to 22: debts matched, quarrels, worths and taxes as known on a day. */
public final class KnownTest {
    private static final Check CHECK = new Check();

    public static void main(String[] args) {
        debtsAreMatched();
        firstFreeLentIsTaken();
        matchesOfOtherDaysAndYears();
        landQuarrels();
        quarrelledLandIsLeftOut();
        quarrelsOfDebts();
        worthsAreSummed();
        taxesAreCut();
        sinceLooksBack();
        sinceDayByDay();
        differsTellsTheLeast();
        fullHall();
        wrongInputs();
        CHECK.end();
    }

    private static void debtsAreMatched() {
        DeclarationHall hall = new DeclarationHall();
        Check.declare(hall, 1, 0, "lent 0 50,goods 3");
        Check.declare(hall, 0, 0, "owes 1 50,owes 2 50,owes 1 51");
        Check.declare(hall, 2, 0, "lent 1 50,owes 0 50,heads 1");
        CHECK.due("owes with an earlier lent", 0, hall.match(2, 0));
        CHECK.due("lent", 2, hall.match(0, 0));
        CHECK.due("owes to 2, who lent to 1", Check.NONE, hall.match(3, 0));
        CHECK.due("owes of another number", Check.NONE, hall.match(4, 0));
        CHECK.due("lent to 1, who owes not", Check.NONE, hall.match(5, 0));
        CHECK.due("two who owe each other", Check.NONE, hall.match(6, 0));
        CHECK.due("goods", Check.NO, hall.match(1, 0));
        CHECK.due("heads", Check.NO, hall.match(7, 0));
    }

    private static void firstFreeLentIsTaken() {
        DeclarationHall hall = new DeclarationHall();
        Check.declare(hall, 0, 0, "owes 1 5,owes 1 5");
        Check.declare(hall, 1, 0, "lent 0 5,lent 0 5,lent 0 5");
        CHECK.due("the first", 2, hall.match(0, 0));
        CHECK.due("the second", 3, hall.match(1, 0));
        CHECK.due("left over", Check.NONE, hall.match(4, 0));
        hall.days(1);
        hall.appeal(0, 1);
        CHECK.due("the second moves up", 2, hall.match(1, 1));
        CHECK.due("the struck one", Check.NONE, hall.match(0, 1));
        CHECK.due("the day ahead", 3, hall.match(1, 0));
        hall.appeal(2, 1);
        CHECK.due("and on", 3, hall.match(1, 1));
    }

    private static void matchesOfOtherDaysAndYears() {
        DeclarationHall hall = new DeclarationHall();
        Check.declare(hall, 0, 4, "owes 1 5");
        Check.declare(hall, 1, 5, "lent 0 5");
        CHECK.due("another year", Check.NONE, hall.match(0, 100000));
        hall.days(3);
        Check.declare(hall, 1, 4, "lent 0 5");
        CHECK.due("written later", Check.NONE, hall.match(0, 2));
        CHECK.due("not yet written", Check.NONE, hall.match(2, 2));
        CHECK.due("its own year", 2, hall.match(0, 3));
        CHECK.due("the other side", 0, hall.match(2, 3));
    }

    private static void landQuarrels() {
        DeclarationHall hall = new DeclarationHall();
        Check.declare(hall, 0, 0, "land 0 10");
        CHECK.due("not measured", 1, hall.quarrel(0, 0));
        hall.days(1);
        hall.measure(0, 10, 0);
        CHECK.due("measured as it is now", 0, hall.quarrel(0, 0));
        hall.measure(0, 9, 0);
        CHECK.due("too much", 2, hall.quarrel(0, 0));
        hall.measure(0, 10, 0);
        hall.says(3, 0, 4);
        CHECK.due("told of another", 3, hall.quarrel(0, 1));
        CHECK.due("the day ahead", 0, hall.quarrel(0, 0));
        hall.measure(0, 9, 0);
        CHECK.due("2 stands ahead of 3", 2, hall.quarrel(0, 1));
        hall.measure(0, 10, 0);
        hall.says(3, 0, 0);
        CHECK.due("told of itself", 0, hall.quarrel(0, 1));
        hall.says(5, 1, 6);
        Check.declare(hall, 0, 0, "land 1 1");
        CHECK.due("1 stands ahead of 3", 1, hall.quarrel(1, 1));
        CHECK.due("quarrels", 1, hall.quarrels(0, 1));
        CHECK.due("quarrels the day ahead", 0, hall.quarrels(0, 0));
        hall.appeal(1, 1);
        CHECK.due("struck", Check.NONE, hall.quarrel(1, 1));
        CHECK.due("quarrels without it", 0, hall.quarrels(0, 1));
    }

    private static void quarrelledLandIsLeftOut() {
        DeclarationHall hall = new DeclarationHall();
        hall.measure(5, 100, 0);
        hall.measure(6, 100, 0);
        hall.says(9, 6, 2);
        Check.declare(hall, 1, 0, "land 5 60,land 5 50,land 5 40,land 5 1");
        Check.declare(hall, 1, 1, "land 5 60");
        Check.declare(hall, 1, 0, "land 6 100");
        Check.declare(hall, 2, 0, "land 6 100,land 6 1");
        int[] want = {0, 2, 0, 2, 0, 3, 0, 2};
        for (int line = 0; line < want.length; line++) {
            CHECK.due("quarrel(" + line + ", 0)", want[line], hall.quarrel(line, 0));
        }
        CHECK.due("quarrels(0, 0)", 4, hall.quarrels(0, 0));
        CHECK.due("quarrels(1, 0)", 0, hall.quarrels(1, 0));
        CHECK.due("worth(1, 0, 0)", 100, hall.worth(1, 0, 0));
        hall.days(1);
        hall.appeal(0, 1);
        CHECK.due("room again", 0, hall.quarrel(1, 1));
        CHECK.due("none on the day ahead", 2, hall.quarrel(1, 0));
    }

    private static void quarrelsOfDebts() {
        DeclarationHall hall = new DeclarationHall();
        Check.declare(hall, 0, 7, "owes 1 5,lent 1 6,goods 1,heads 1");
        CHECK.due("owes", 4, hall.quarrel(0, 0));
        CHECK.due("lent", 5, hall.quarrel(1, 0));
        CHECK.due("goods", 0, hall.quarrel(2, 0));
        CHECK.due("heads", 0, hall.quarrel(3, 0));
        CHECK.due("both", 2, hall.quarrels(7, 0));
        Check.declare(hall, 1, 7, "lent 0 5,owes 0 6");
        for (int line = 0; line < 6; line++) {
            CHECK.due("matched " + line, 0, hall.quarrel(line, 0));
        }
        hall.decree(4, 0, 0);
        hall.days(1);
        hall.appeal(4, 1);
        CHECK.due("a quarrel also if debts do not count", 4, hall.quarrel(0, 1));
    }

    private static void worthsAreSummed() {
        DeclarationHall hall = new DeclarationHall();
        for (int plot = 0; plot < 3; plot++) {
            hall.measure(plot, 500, plot);
            hall.decree(plot, 2, 10 + plot);
        }
        Check.declare(hall, 0, 2, "land 0 1,land 1 100,land 2 10,goods 7,heads 3,owes 1 50");
        Check.declare(hall, 0, 2, "lent 1 20,lent 2 9999,land 9 5");
        Check.declare(hall, 1, 2, "lent 0 50,owes 0 20");
        int land = 10 + 1100 + 120;
        CHECK.due("worth of 0", land + 7 - 50 + 20, hall.worth(0, 2, 0));
        CHECK.due("worth of 1", 30, hall.worth(1, 2, 0));
        CHECK.due("another year", 0, hall.worth(0, 3, 0));
        hall.days(1);
        hall.decree(3, 0, 100);
        CHECK.due("less heads", land + 7 - 30 - 300, hall.worth(0, 2, 1));
        hall.decree(4, 1, 0);
        CHECK.due("debts do not count", land + 7 - 300, hall.worth(0, 2, 1));
        CHECK.due("debts of 1", 0, hall.worth(1, 2, 1));
        CHECK.due("as known the day ahead", land + 7 - 30, hall.worth(0, 2, 0));
        hall.decree(3, 0, 1000);
        CHECK.due("not below 0", 0, hall.worth(0, 2, 1));
        hall.measure(1, 500, 2);
        CHECK.due("the class as it is now", land + 100 + 7 - 30, hall.worth(0, 2, 0));
    }

    private static void taxesAreCut() {
        DeclarationHall hall = new DeclarationHall();
        Check.declare(hall, 0, 0, "goods 19");
        Check.declare(hall, 1, 0, "goods 29");
        Check.declare(hall, 9, 0, "goods 9");
        CHECK.due("tax 19", 1, hall.tax(0, 0, 0));
        CHECK.due("tax 29", 2, hall.tax(1, 0, 0));
        CHECK.due("tax 9", 0, hall.tax(9, 0, 0));
        CHECK.due("each is cut ahead of the sum", 3, hall.taxes(0, 0));
        hall.days(1);
        hall.decree(5, 0, 1000);
        CHECK.due("all of it", 57, hall.taxes(0, 1));
        CHECK.due("the day ahead", 3, hall.taxes(0, 0));
        hall.decree(5, 0, 0);
        CHECK.due("no rate", 0, hall.taxes(0, 1));
        greatTaxes();
    }

    /** Worth times rate goes beyond an int. */
    private static void greatTaxes() {
        DeclarationHall hall = new DeclarationHall();
        hall.decree(0, 0, 100);
        hall.decree(5, 0, 999);
        for (int plot = 0; plot < 12; plot++) {
            hall.measure(plot, 2000, 0);
            String land = "land " + plot + " 500";
            Check.declare(hall, 4, 0, String.join(",", land, land, land, land));
        }
        CHECK.due("worth", 2400000, hall.worth(4, 0, 0));
        CHECK.due("tax", 2397600, hall.tax(4, 0, 0));
        CHECK.due("taxes", 2397600, hall.taxes(0, 0));
        CHECK.due("levy", 0, hall.levy(100000, 0));
        CHECK.due("share", 100000, hall.loan(0, 4, 0));
    }

    private static void sinceLooksBack() {
        DeclarationHall hall = new DeclarationHall();
        CHECK.due("nothing known", 0, hall.since(0, 0));
        hall.days(10);
        CHECK.due("nothing known yet", 0, hall.since(0, 0));
        Check.declare(hall, 0, 0, "goods 5");
        CHECK.due("declared", 10, hall.since(0, 0));
        CHECK.due("another house", 0, hall.since(1, 0));
        CHECK.due("another year", 0, hall.since(0, 1));
        hall.days(10);
        hall.appeal(0, 1);
        CHECK.due("struck: 0 from today", 20, hall.since(0, 0));
        hall.appeal(0, 0);
        CHECK.due("as if nothing was", 10, hall.since(0, 0));
        hall.days(10);
        hall.appeal(0, 1);
        hall.days(10);
        hall.appeal(0, 0);
        CHECK.due("the same worth of old does not count", 40, hall.since(0, 0));
        hall.days(10);
        Check.declare(hall, 0, 0, "heads 9");
        Check.declare(hall, 1, 0, "goods 9");
        hall.decree(5, 0, 1);
        CHECK.due("changes without one of worth", 40, hall.since(0, 0));
        hall.days(10);
        hall.decree(3, 0, 1);
        CHECK.due("a decree", 60, hall.since(0, 0));
        sinceAWord();
    }

    private static void sinceAWord() {
        DeclarationHall hall = new DeclarationHall();
        hall.measure(0, 9, 0);
        Check.declare(hall, 0, 0, "land 0 9");
        CHECK.due("from the first day", 0, hall.since(0, 0));
        hall.days(7);
        hall.says(1, 0, 2);
        hall.days(7);
        CHECK.due("a word", 7, hall.since(0, 0));
        hall.measure(0, 8, 0);
        CHECK.due("measures are as now for all days", 0, hall.since(0, 0));
    }

    /** One day with another worth is enough, next to others and at the very start. */
    private static void sinceDayByDay() {
        DeclarationHall hall = new DeclarationHall();
        Check.declare(hall, 0, 0, "goods 5");
        hall.days(1);
        hall.appeal(0, 1);
        CHECK.due("day 1", 1, hall.since(0, 0));
        hall.days(1);
        hall.appeal(0, 0);
        CHECK.due("day 2, worth as on day 0", 2, hall.since(0, 0));
        hall.days(1);
        CHECK.due("day 3", 2, hall.since(0, 0));
    }

    /** All rows are full to their ends. */
    private static void fullHall() {
        DeclarationHall hall = new DeclarationHall();
        hall.measure(0, 2000, 0);
        for (int i = 0; i < 20; i++) {
            Check.declare(hall, 0, 0, "land 0 100,goods 1,heads 1,owes 1 " + (i + 1) + ",lent 1 7");
        }
        for (int i = 0; i < 20; i++) {
            hall.says(i % 10, 0, 0);
            hall.says(i % 10, 1, 1);
            hall.decree(5, 0, i);
            hall.decree(0, 0, 2);
        }
        CHECK.due("quarrels", 40, hall.quarrels(0, 0));
        CHECK.due("worth", 4020, hall.worth(0, 0, 0));
        CHECK.due("tax", 76, hall.tax(0, 0, 0));
        CHECK.due("taxes", 76, hall.taxes(0, 0));
        CHECK.due("match of the last", Check.NONE, hall.match(99, 0));
        CHECK.due("quarrel of the last", 5, hall.quarrel(99, 0));
        CHECK.due("told", 0, hall.toldOf(0, 0));
        CHECK.due("since", 0, hall.since(0, 0));
        CHECK.due("differs", Check.NONE, hall.differs(0, 0, 1));
        for (int n = 1; n <= 8; n++) {
            CHECK.due("appeal of the last", n, hall.appeal(99, n % 2));
        }
        CHECK.due("it stands", 1, hall.stands(99, 0));
        CHECK.due("levy", 0, hall.levy(3, 0));
    }

    private static void differsTellsTheLeast() {
        DeclarationHall hall = new DeclarationHall();
        Check.declare(hall, 5, 0, "goods 5");
        hall.days(1);
        Check.declare(hall, 9, 0, "goods 5");
        hall.days(1);
        Check.declare(hall, 3, 0, "goods 5");
        CHECK.due("0, 1", 9, hall.differs(0, 0, 1));
        CHECK.due("1, 0", 9, hall.differs(0, 1, 0));
        CHECK.due("0, 2", 3, hall.differs(0, 0, 2));
        CHECK.due("1, 2", 3, hall.differs(0, 1, 2));
        CHECK.due("2, 100000", Check.NONE, hall.differs(0, 2, 100000));
        CHECK.due("1, 1", Check.NONE, hall.differs(0, 1, 1));
        CHECK.due("another year", Check.NONE, hall.differs(1, 0, 2));
        Check.declare(hall, 1, 0, "goods 5");
        CHECK.due("house 1", 1, hall.differs(0, 2, 1));
        Check.declare(hall, 0, 0, "goods 5");
        CHECK.due("house 0", 0, hall.differs(0, 2, 1));
    }

    private static void wrongInputs() {
        DeclarationHall hall = new DeclarationHall();
        Check.declare(hall, 0, 0, "goods 1,owes 1 1");
        int[] wrongDays = {-1, 100001, Integer.MIN_VALUE, Integer.MAX_VALUE};
        for (int day : wrongDays) {
            CHECK.due("match day " + day, Check.BAD, hall.match(1, day));
            CHECK.due("BAD stands ahead of NO", Check.BAD, hall.match(0, day));
            CHECK.due("quarrel day " + day, Check.BAD, hall.quarrel(0, day));
            CHECK.due("quarrels day " + day, Check.BAD, hall.quarrels(0, day));
            CHECK.due("worth day " + day, Check.BAD, hall.worth(0, 0, day));
            CHECK.due("tax day " + day, Check.BAD, hall.tax(0, 0, day));
            CHECK.due("taxes day " + day, Check.BAD, hall.taxes(0, day));
            CHECK.due("differs day " + day, Check.BAD, hall.differs(0, day, 0));
            CHECK.due("differs other " + day, Check.BAD, hall.differs(0, 0, day));
        }
        int[] wrongYears = {-1, 31};
        for (int year : wrongYears) {
            CHECK.due("quarrels year " + year, Check.BAD, hall.quarrels(year, 0));
            CHECK.due("worth year " + year, Check.BAD, hall.worth(0, year, 0));
            CHECK.due("tax year " + year, Check.BAD, hall.tax(0, year, 0));
            CHECK.due("taxes year " + year, Check.BAD, hall.taxes(year, 0));
            CHECK.due("since year " + year, Check.BAD, hall.since(0, year));
            CHECK.due("differs year " + year, Check.BAD, hall.differs(year, 0, 0));
        }
        int[] wrongHouses = {-1, 10};
        for (int house : wrongHouses) {
            CHECK.due("worth house " + house, Check.BAD, hall.worth(house, 0, 0));
            CHECK.due("tax house " + house, Check.BAD, hall.tax(house, 0, 0));
            CHECK.due("since house " + house, Check.BAD, hall.since(house, 0));
        }
        int[] wrongLines = {-1, 2};
        for (int line : wrongLines) {
            CHECK.due("match line " + line, Check.BAD, hall.match(line, 0));
            CHECK.due("quarrel line " + line, Check.BAD, hall.quarrel(line, 0));
        }
    }
}
