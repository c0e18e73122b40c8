/** Promises 18 to 22: worths and taxes as known on a day, since when, and who differs. */
public final class WorthsTest {
    private static final Check CHECK = new Check();

    public static void main(String[] args) {
        worth();
        withoutQuarrel();
        debtsCount();
        notBelowNought();
        ofItsYearAndDay();
        tax();
        taxes();
        greatest();
        since();
        sinceEdges();
        differs();
        refused();
        CHECK.end();
    }

    private static void worth() {
        CHECK.sentence("T3: LAND: so much times the worth of its CLASS").rows("measure 0 500 0 = 0",
            "measure 1 500 1 = 0", "measure 11 500 2 = 0", "told 0 0 = 1 : land 0 3", "told 1 0 = 1 : land 1 3",
            "told 2 0 = 1 : land 11 3", "worth 0 0 0 = 3", "worth 1 0 0 = 3", "worth 2 0 0 = 3", "decree 0 0 10 = 1",
            "decree 1 0 100 = 2", "decree 2 0 0 = 3", "worth 0 0 0 = 30", "worth 1 0 0 = 300", "worth 2 0 0 = 0");
        CHECK.sentence("T3: GOODS").rows("told 0 0 = 2 : goods 1,goods 9999", "worth 0 0 0 = 10000", "worth 1 0 0 = 0");
        CHECK.sentence("T3: LENT and less OWES").rows("told 0 0 = 2 : goods 100,owes 9 30", "told 9 0 = 1 : lent 0 30",
            "worth 0 0 0 = 70", "worth 9 0 0 = 30");
        CHECK.sentence("T3: less HEADS times the allowance").rows("told 0 0 = 3 : goods 9999,heads 3,heads 4",
            "worth 0 0 0 = 9999", "decree 3 0 1 = 1", "worth 0 0 0 = 9992", "decree 3 0 1000 = 2", "worth 0 0 0 = 2999",
            "decree 3 0 0 = 3", "worth 0 0 0 = 9999");
        CHECK.sentence("T3: the CLASS has no days: it is as measured now").rows("told 0 0 = 1 : land 3 2",
            "decree 2 0 50 = 1", "days 5 = 5", "measure 3 2 2 = 0", "worth 0 0 0 = 100", "measure 3 2 1 = 2",
            "worth 0 0 0 = 2");
    }

    private static void withoutQuarrel() {
        CHECK.sentence("T3: its LINES without QUARREL: LAND").rows("measure 3 10 0 = 0",
            "told 0 0 = 4 : land 3 10,land 3 1,land 4 5,goods 7", "worth 0 0 0 = 17", "says 1 3 2 = 1",
            "worth 0 0 0 = 7");
        CHECK.sentence("T3: its LINES without QUARREL: debts").rows("told 0 0 = 3 : goods 100,owes 1 30,lent 1 20",
            "worth 0 0 0 = 100", "told 1 0 = 1 : lent 0 30", "worth 0 0 0 = 70", "told 1 0 = 1 : owes 0 20",
            "worth 0 0 0 = 90", "worth 1 0 0 = 10");
    }

    private static void debtsCount() {
        CHECK.sentence("T3: (if debts count)").rows("told 0 5 = 2 : goods 100,owes 1 30", "told 1 5 = 1 : lent 0 30",
            "decree 4 6 0 = 1", "worth 0 5 0 = 70", "worth 1 5 0 = 30", "decree 4 5 0 = 2", "worth 0 5 0 = 100",
            "worth 1 5 0 = 0", "decree 4 5 1 = 3", "worth 0 5 0 = 70", "worth 1 5 0 = 30");
    }

    private static void notBelowNought() {
        CHECK.sentence("T3: 0, if that is below 0").rows("decree 3 0 1 = 1", "told 0 0 = 2 : goods 5,heads 4",
            "worth 0 0 0 = 1", "told 0 0 = 1 : heads 1", "worth 0 0 0 = 0", "told 0 0 = 1 : heads 1", "worth 0 0 0 = 0",
            "tax 0 0 0 = 0", "taxes 0 0 = 0", "told 0 0 = 1 : goods 2", "worth 0 0 0 = 1");
        CHECK.sentence("T3: .. far below, by heads and by debts").rows("decree 3 0 1000 = 1",
            "told 0 0 = 5 : heads 50,heads 50,heads 50,heads 50,goods 9999", "told 1 0 = 1 : owes 2 9999",
            "told 2 0 = 1 : lent 1 9999", "worth 0 0 0 = 0", "worth 1 0 0 = 0", "worth 2 0 0 = 9999",
            "taxes 0 0 = 999");
    }

    private static void ofItsYearAndDay() {
        CHECK.sentence("18: AS KNOWN on a DAY, for a YEAR").rows("days 3 = 3", "told 0 30 = 1 : goods 5",
            "told 0 0 = 1 : goods 6", "worth 0 30 3 = 5", "worth 0 0 3 = 6", "worth 0 29 3 = 0", "worth 0 30 2 = 0",
            "worth 0 30 0 = 0", "worth 0 30 100000 = 5", "days 1 = 4", "appeal 0 1 = 1", "worth 0 30 3 = 5",
            "worth 0 30 4 = 0");
    }

    private static void tax() {
        CHECK.sentence("T3: TAX: WORTH times rate / 1000, cut").rows("told 0 0 = 1 : goods 9",
            "told 1 0 = 1 : goods 10", "told 2 0 = 1 : goods 19", "told 3 0 = 1 : goods 20", "tax 0 0 0 = 0",
            "tax 1 0 0 = 1", "tax 2 0 0 = 1", "tax 3 0 0 = 2", "tax 4 0 0 = 0");
        CHECK.sentence("T3: .. of the least and the greatest rate").rows("told 0 0 = 1 : goods 999",
            "told 1 0 = 1 : goods 1000", "decree 5 0 0 = 1", "tax 1 0 0 = 0", "decree 5 0 1 = 2", "tax 0 0 0 = 0",
            "tax 1 0 0 = 1", "decree 5 0 999 = 3", "tax 0 0 0 = 998", "tax 1 0 0 = 999", "decree 5 0 1000 = 4",
            "tax 0 0 0 = 999", "tax 1 0 0 = 1000");
        CHECK.sentence("19: the rate as known on that DAY for that YEAR").rows("told 0 5 = 1 : goods 1000",
            "days 1 = 1", "decree 5 5 200 = 1", "decree 5 6 300 = 2", "tax 0 5 0 = 100", "tax 0 5 1 = 200",
            "taxes 5 0 = 100", "taxes 5 1 = 200");
    }

    private static void taxes() {
        CHECK.sentence("20: All TAXES of a YEAR together: each is cut").rows("told 0 0 = 1 : goods 19",
            "told 5 0 = 1 : goods 29", "told 9 0 = 1 : goods 9", "told 9 1 = 1 : goods 5000", "taxes 0 0 = 3",
            "taxes 1 0 = 500", "taxes 2 0 = 0", "decree 5 0 1000 = 1", "taxes 0 0 = 57");
        CHECK.sentence("20: .. of all ten HOUSES").each(0, 9, "told # 0 = 1 : goods 1000").rows("taxes 0 0 = 1000");
    }

    private static void greatest() {
        Sentence great = CHECK.sentence("T3: WORTH times rate can be beyond an int").rows("decree 0 0 100 = 1",
            "decree 5 0 999 = 2");
        for (int plot = 0; plot < 12; plot++) {
            great.rows("measure " + plot + " 2000 0 = 0",
                "told 4 0 = 4 : land # 500,land # 500,land # 500,land # 500".replace("#", String.valueOf(plot)));
        }
        great.rows("worth 4 0 0 = 2400000", "tax 4 0 0 = 2397600", "taxes 0 0 = 2397600", "levy 100000 0 = 0",
            "loan 0 4 0 = 100000");
        great.each(1, 8, "told 4 0 = 5 : goods 999#,goods 9999,goods 9999,goods 9999,goods 9999").rows("count 0 = 88",
            "worth 4 0 0 = 2799924", "tax 4 0 0 = 2797124");
    }

    private static void since() {
        CHECK.sentence("21: The first DAY from which on WORTH is always what it is as known today")
            .rows("since 0 0 = 0", "days 10 = 10", "since 0 0 = 0", "told 0 0 = 1 : goods 5", "since 0 0 = 10",
            "since 1 0 = 0", "since 0 1 = 0", "days 10 = 20", "since 0 0 = 10", "appeal 0 1 = 1", "since 0 0 = 20",
            "appeal 0 0 = 2", "since 0 0 = 10");
        CHECK.sentence("21: .. always: the same WORTH of old does not count").rows("told 0 0 = 1 : goods 5",
            "days 1 = 1", "appeal 0 1 = 1", "since 0 0 = 1", "days 1 = 2", "appeal 0 0 = 2", "since 0 0 = 2",
            "days 1 = 3", "since 0 0 = 2");
        CHECK.sentence("21: .. what leaves WORTH as it is does not count").rows("days 1 = 1", "told 0 0 = 1 : goods 5",
            "days 1 = 2", "told 0 0 = 1 : heads 9", "days 1 = 3", "told 1 0 = 1 : goods 9", "days 1 = 4",
            "decree 5 0 1 = 1", "says 1 1 1 = 1", "days 1 = 5", "decree 3 1 5 = 2", "since 0 0 = 1", "decree 3 0 1 = 3",
            "since 0 0 = 5", "since 1 0 = 3");
        CHECK.sentence("21: .. a word").rows("measure 0 9 0 = 0", "told 0 0 = 1 : land 0 9", "since 0 0 = 0",
            "days 7 = 7", "says 1 0 2 = 1", "days 7 = 14", "since 0 0 = 7", "measure 0 8 0 = 9", "since 0 0 = 0");
        CHECK.sentence("21: .. the other side of a debt").rows("told 0 0 = 2 : goods 9,owes 1 5", "days 3 = 3",
            "told 1 0 = 1 : lent 0 5", "days 3 = 6", "since 0 0 = 3", "since 1 0 = 3", "since 2 0 = 0");
    }

    private static void sinceEdges() {
        CHECK.sentence("21: from DAY 0 on").rows("told 0 0 = 1 : goods 5", "since 0 0 = 0", "days 1000 = 1000",
            "since 0 0 = 0", "told 0 0 = 1 : goods 1", "since 0 0 = 1000");
        CHECK.sentence("21: from DAY 1 on").rows("days 1 = 1", "told 0 0 = 1 : goods 5", "since 0 0 = 1", "days 9 = 10",
            "since 0 0 = 1");
        CHECK.sentence("21: from the last DAY on").each(1, 100, "days 1000 = #000").rows("told 0 0 = 1 : goods 5",
            "since 0 0 = 100000", "since 9 30 = 0");
        Sentence many = CHECK.sentence("21: of many DAYS with changes").rows("told 0 0 = 1 : goods 5");
        for (int day = 1; day <= 40; day++) {
            many.rows("days 1 = " + day, "decree 3 0 " + day + " = " + day);
        }
        for (int day = 41; day <= 80; day++) {
            many.rows("days 1 = " + day, "says 0 0 1 = " + (day - 40));
        }
        many.rows("since 0 0 = 0", "days 1 = 81", "appeal 0 1 = 1", "since 0 0 = 81", "appeal 0 0 = 2", "since 0 0 = 0",
            "days 1 = 82", "told 0 0 = 1 : heads 1", "since 0 0 = 82", "told 0 0 = 1 : goods 40", "since 0 0 = 0",
            "told 0 0 = 1 : goods 1", "since 0 0 = 82");
        sinceBehindMostChanges();
    }

    /** As many days with a change as 512 calls can bring, the last calls being the questions. */
    private static void sinceBehindMostChanges() {
        Sentence most = CHECK.sentence("21, use: the 512th call").each(1, 5,
            "told 0 0 = 7 : goods #,goods 1,goods 1,goods 1,goods 1,goods 1,goods 1");
        for (int day = 1; day <= 235; day++) {
            int line = (day - 1) / 8;
            int appeal = (day - 1) % 8 + 1;
            most.rows("days 1 = " + day, "appeal " + line + " " + appeal % 2 + " = " + appeal);
        }
        most.rows("since 0 0 = 235", "since 1 0 = 0");
    }

    private static void differs() {
        CHECK.sentence("22: The least HOUSE whose WORTH is another one; NONE").rows("told 5 0 = 1 : goods 5",
            "days 1 = 1", "told 9 0 = 1 : goods 5", "days 1 = 2", "told 3 0 = 1 : goods 5", "differs 0 0 1 = 9",
            "differs 0 1 0 = 9", "differs 0 0 2 = 3", "differs 0 1 2 = 3", "differs 0 2 1 = 3",
            "differs 0 2 100000 = NONE", "differs 0 1 1 = NONE", "differs 1 0 2 = NONE", "told 1 0 = 1 : goods 5",
            "differs 0 2 1 = 1", "told 0 0 = 1 : goods 5", "differs 0 2 1 = 0");
        CHECK.sentence("22: by 1, more or less").rows("told 4 30 = 1 : goods 5", "days 1 = 1",
            "told 4 30 = 1 : goods 1", "differs 30 0 1 = 4", "differs 30 1 0 = 4", "appeal 0 1 = 1",
            "told 4 30 = 1 : goods 4", "differs 30 0 1 = NONE");
    }

    private static void refused() {
        CHECK.sentence("18: BAD: HOUSE, YEAR, DAY").rows("told 0 0 = 1 : goods 5").only(0, 9, "worth # 0 0")
            .only(0, 30, "worth 0 # 0").only(0, 100000, "worth 0 0 #").rows("worth 0 0 0 = 5", "worth 9 30 100000 = 0");
        CHECK.sentence("19: BAD: HOUSE, YEAR, DAY").rows("told 0 0 = 1 : goods 50").only(0, 9, "tax # 0 0")
            .only(0, 30, "tax 0 # 0").only(0, 100000, "tax 0 0 #").rows("tax 0 0 0 = 5", "tax 9 30 100000 = 0");
        CHECK.sentence("20: BAD: YEAR, DAY").rows("told 0 0 = 1 : goods 50").only(0, 30, "taxes # 0")
            .only(0, 100000, "taxes 0 #").rows("taxes 0 100000 = 5", "taxes 30 0 = 0");
        CHECK.sentence("21: BAD: HOUSE, YEAR").rows("told 0 0 = 1 : goods 50").only(0, 9, "since # 0")
            .only(0, 30, "since 0 #").rows("since 9 30 = 0");
        CHECK.sentence("22: BAD: YEAR, both DAYS").rows("told 0 0 = 1 : goods 50").only(0, 30, "differs # 0 0")
            .only(0, 100000, "differs 0 # 0").only(0, 100000, "differs 0 0 #").rows("differs 30 0 100000 = NONE",
                "differs 0 100000 0 = NONE");
    }
}
