/** Promises 16 and 17: quarrels of lines, as known on a day. */
public final class QuarrelsTest {
    private static final Check CHECK = new Check();

    public static void main(String[] args) {
        notMeasured();
        moreThanItsArea();
        toldUpToIt();
        leftOut();
        toldOfAnother();
        debts();
        theFirstOfThese();
        noneOfOthers();
        doesNotStand();
        howMany();
        refused();
        CHECK.end();
    }

    private static void notMeasured() {
        CHECK.sentence("T3: 1 LAND of a PLOT that is not measured").rows("told 0 0 = 2 : land 0 1,land 11 500",
            "quarrel 0 0 = 1", "quarrel 1 0 = 1", "measure 0 500 0 = 0", "quarrel 0 0 = 0", "quarrel 1 0 = 1",
            "measure 11 500 0 = 0", "quarrel 1 0 = 0");
        CHECK.sentence("T3: .. (as it is now)").rows("told 0 0 = 1 : land 5 9", "days 9 = 9", "measure 5 9 0 = 0",
            "quarrel 0 0 = 0", "quarrel 0 9 = 0", "measure 5 8 0 = 9", "quarrel 0 0 = 2", "quarrels 0 0 = 1");
    }

    private static void moreThanItsArea() {
        CHECK.sentence("T3: 2 LAND with which what LINES told of that PLOT is more than its AREA: one LINE")
            .rows("measure 3 9 0 = 0", "told 0 0 = 1 : land 3 10", "quarrel 0 0 = 2", "measure 3 10 0 = 9",
                "quarrel 0 0 = 0", "measure 3 1 0 = 10", "quarrel 0 0 = 2", "told 0 0 = 1 : land 3 1",
                "quarrel 1 0 = 0");
        CHECK.sentence("T3: .. several LINES, of several HOUSES").rows("measure 3 100 0 = 0",
            "told 0 0 = 1 : land 3 60", "told 1 0 = 2 : land 3 40,land 3 1", "quarrel 0 0 = 0", "quarrel 1 0 = 0",
            "quarrel 2 0 = 2", "measure 3 101 0 = 100", "quarrel 2 0 = 0", "measure 3 99 0 = 101", "quarrel 1 0 = 2",
            "quarrel 2 0 = 0");
        CHECK.sentence("T3: .. of the greatest AREA").rows("measure 3 2000 0 = 0",
            "told 0 0 = 5 : land 3 500,land 3 500,land 3 500,land 3 500,land 3 1").each(0, 3, "quarrel # 0 = 0")
            .rows("quarrel 4 0 = 2", "measure 3 1999 0 = 2000", "quarrel 3 0 = 2", "quarrel 4 0 = 0");
        CHECK.sentence("T3: .. of that PLOT alone").rows("measure 3 10 0 = 0", "measure 4 10 0 = 0",
            "told 0 0 = 4 : land 3 10,land 4 10,land 3 1,land 4 1", "quarrel 0 0 = 0", "quarrel 1 0 = 0",
            "quarrel 2 0 = 2", "quarrel 3 0 = 2");
        CHECK.sentence("T3: .. told for that YEAR alone").rows("measure 3 10 0 = 0", "told 0 0 = 1 : land 3 10",
            "told 0 1 = 1 : land 3 10", "told 0 30 = 1 : land 3 10").each(0, 2, "quarrel # 0 = 0");
    }

    private static void toldUpToIt() {
        CHECK.sentence("T3: .. up to it (by number)").rows("measure 3 10 0 = 0",
            "told 0 0 = 3 : land 3 6,land 3 6,land 3 4", "quarrel 0 0 = 0", "quarrel 1 0 = 2", "quarrel 2 0 = 0",
            "days 1 = 1", "told 1 0 = 1 : land 3 1", "quarrel 0 1 = 0", "quarrel 3 1 = 2");
        CHECK.sentence("T3: .. by number also if it was let stand again later").rows("measure 3 10 0 = 0",
            "told 0 0 = 2 : land 3 6,land 3 6", "days 1 = 1", "appeal 0 1 = 1", "quarrel 1 1 = 0", "quarrel 1 0 = 2",
            "days 1 = 2", "appeal 0 0 = 2", "quarrel 0 2 = 0", "quarrel 1 2 = 2", "quarrel 1 1 = 0");
    }

    private static void leftOut() {
        CHECK.sentence("T3: .. those with a QUARREL left out: with too much").rows("measure 3 100 0 = 0",
            "told 1 0 = 4 : land 3 60,land 3 50,land 3 40,land 3 1", "quarrel 0 0 = 0", "quarrel 1 0 = 2",
            "quarrel 2 0 = 0", "quarrel 3 0 = 2", "worth 1 0 0 = 100");
        CHECK.sentence("T3: .. those with a QUARREL left out: told of another").rows("measure 3 100 0 = 0",
            "says 9 3 2 = 1", "told 1 0 = 1 : land 3 100", "told 2 0 = 2 : land 3 100,land 3 1", "quarrel 0 0 = 3",
            "quarrel 1 0 = 0", "quarrel 2 0 = 2");
    }

    private static void toldOfAnother() {
        CHECK.sentence("T3: 3 LAND of a PLOT that is TOLD of another HOUSE").rows("measure 3 10 0 = 0",
            "told 0 0 = 1 : land 3 1", "quarrel 0 0 = 0", "days 1 = 1", "says 5 3 4 = 1", "quarrel 0 1 = 3",
            "quarrel 0 0 = 0", "quarrel 0 2 = 3", "says 6 3 7 = 2", "quarrel 0 1 = 0", "says 6 3 0 = 3",
            "says 5 3 0 = 4", "quarrel 0 1 = 0", "says 5 3 9 = 5", "says 6 3 9 = 6", "quarrel 0 1 = 3");
        CHECK.sentence("T3: .. of the first and the last HOUSE").rows("measure 3 10 0 = 0", "told 9 0 = 1 : land 3 1",
            "told 0 0 = 1 : land 3 1", "says 5 3 0 = 1", "quarrel 0 0 = 3", "quarrel 1 0 = 0", "says 5 3 9 = 2",
            "quarrel 0 0 = 0", "quarrel 1 0 = 3");
        CHECK.sentence("T3: .. of that PLOT alone").rows("measure 3 10 0 = 0", "told 0 0 = 1 : land 3 1",
            "says 5 2 4 = 1", "says 5 4 4 = 2", "quarrel 0 0 = 0");
    }

    private static void debts() {
        CHECK.sentence("T3: 4 an OWES that is not MATCHED").rows("told 0 7 = 1 : owes 1 5", "quarrel 0 0 = 4",
            "days 1 = 1", "told 1 7 = 1 : lent 0 5", "quarrel 0 1 = 0", "quarrel 1 1 = 0", "quarrel 0 0 = 4",
            "appeal 1 1 = 1", "quarrel 0 1 = 4");
        CHECK.sentence("T3: 5 a LENT that is not").rows("told 0 7 = 1 : lent 1 5", "quarrel 0 0 = 5", "days 1 = 1",
            "told 1 7 = 2 : owes 0 5,owes 0 5", "quarrel 0 1 = 0", "quarrel 1 1 = 0", "quarrel 2 1 = 4",
            "quarrel 0 0 = 5");
        CHECK.sentence("T3: .. also if debts do not count").rows("decree 4 0 0 = 1", "told 0 0 = 2 : owes 1 5,lent 1 5",
            "quarrel 0 0 = 4", "quarrel 1 0 = 5");
    }

    private static void theFirstOfThese() {
        CHECK.sentence("T3: the first of these: 1 ahead of 3").rows("says 5 3 4 = 1", "told 0 0 = 1 : land 3 500",
            "quarrel 0 0 = 1");
        CHECK.sentence("T3: the first of these: 2 ahead of 3").rows("says 5 3 4 = 1", "told 0 0 = 1 : land 3 500",
            "measure 3 499 0 = 0", "quarrel 0 0 = 2", "measure 3 500 0 = 499", "quarrel 0 0 = 3");
    }

    private static void noneOfOthers() {
        CHECK.sentence("16: 0: none").rows("told 0 0 = 4 : goods 1,goods 9999,heads 1,heads 50")
            .each(0, 3, "quarrel # 0 = 0");
    }

    private static void doesNotStand() {
        CHECK.sentence("16: NONE: it does not stand").rows("days 5 = 5", "told 0 0 = 3 : land 3 1,owes 1 5,goods 1",
            "quarrel 0 4 = NONE", "quarrel 1 4 = NONE", "quarrel 2 4 = NONE", "quarrel 0 5 = 1", "quarrel 1 5 = 4",
            "quarrel 2 5 = 0", "days 1 = 6", "appeal 0 1 = 1", "appeal 1 1 = 1", "appeal 2 1 = 1")
            .each(0, 2, "quarrel # 6 = NONE")
            .rows("quarrel 0 5 = 1", "quarrel 1 5 = 4", "quarrel 2 5 = 0", "appeal 0 0 = 2", "quarrel 0 6 = 1");
    }

    private static void howMany() {
        CHECK.sentence("17: How many LINES for a YEAR have a QUARREL, as known on a DAY").rows("days 1 = 1",
            "measure 3 5 0 = 0", "told 0 30 = 6 : land 3 5,land 3 1,land 4 1,owes 1 5,lent 1 5,goods 1",
            "told 0 0 = 1 : land 5 1", "quarrels 30 0 = 0", "quarrels 30 1 = 4", "quarrels 0 1 = 1", "quarrels 0 0 = 0",
            "quarrels 29 1 = 0", "quarrels 30 100000 = 4", "days 1 = 2", "appeal 3 1 = 1", "quarrels 30 1 = 4",
            "quarrels 30 2 = 3", "says 9 3 8 = 1", "quarrels 30 2 = 4");
        CHECK.sentence("17: all of 100 LINES")
            .each(1, 16, "told 0 0 = 6 : land 1 #,land 1 1,land 1 1,land 1 1,land 1 1,land 1 1")
            .rows("told 0 0 = 4 : land 1 1,land 1 1,land 1 1,land 1 1", "quarrels 0 0 = 100", "quarrel 99 0 = 1",
                "measure 1 1 0 = 0", "quarrels 0 0 = 99", "quarrel 99 0 = 2");
    }

    private static void refused() {
        CHECK.sentence("16: BAD: there is no such LINE").only(0, -1, "quarrel # 0")
            .rows("told 0 0 = 2 : goods 1,goods 2")
            .only(0, 1, "quarrel # 0").rows("quarrel 1 0 = 0");
        CHECK.sentence("16: BAD: a DAY is 0 .. 100000").rows("told 0 0 = 1 : goods 1").only(0, 100000, "quarrel 0 #")
            .rows("quarrel 0 0 = 0", "quarrel 0 100000 = 0");
        CHECK.sentence("17: BAD: a YEAR is 0 .. 30").only(0, 30, "quarrels # 0").rows("quarrels 0 0 = 0",
            "quarrels 30 0 = 0");
        CHECK.sentence("17: BAD: a DAY is 0 .. 100000").only(0, 100000, "quarrels 0 #").rows("quarrels 0 100000 = 0");
    }
}
