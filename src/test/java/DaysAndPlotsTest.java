/** Promises 1 to 3: a new object, days, plots. */
public final class DaysAndPlotsTest {
    private static final Check CHECK = new Check();

    public static void main(String[] args) {
        newObject();
        newObjectsHaveNothingInCommon();
        days();
        measure();
        CHECK.end();
    }

    private static void newObject() {
        CHECK.sentence("1: No LINES").rows("count 0 = 0", "line 0 0 = BAD", "isOf 0 0 = BAD", "appeal 0 1 = BAD",
            "appeal 0 0 = BAD", "stands 0 0 = BAD", "match 0 0 = BAD", "quarrel 0 0 = BAD", "quarrels 0 0 = 0",
            "worth 0 0 0 = 0", "tax 0 0 0 = 0", "taxes 0 0 = 0", "since 0 0 = 0", "differs 0 0 100000 = NONE");
        CHECK.sentence("1: No words").rows("count 1 = 0").each(0, 11, "toldOf # 0 = NONE");
        CHECK.sentence("1: No DECREES").rows("count 2 = 0", "holds 0 0 0 = 1", "holds 1 0 0 = 1", "holds 2 0 0 = 1",
            "holds 3 0 0 = 0", "holds 4 0 0 = 1", "holds 5 0 0 = 100");
        CHECK.sentence("1: No LOANS").rows("count 3 = 0", "loan 0 0 0 = BAD", "pay 0 0 1 = BAD", "sell 0 0 1 1 = BAD",
            "levy 1 0 = NO", "count 7 = 0");
        CHECK.sentence("1: no PLOT is measured").rows("count 6 = 0").each(0, 11, "measure # 1 0 = 0");
        CHECK.sentence("T1: DAY is 0 at first").rows("count 5 = 0", "days 0 = 0");
        CHECK.sentence("1: THE TAPE is empty").rows("count 4 = 0", "trim 1 = BAD", "trim 0 = 0", "declare 0 0 = -100");
    }

    private static void newObjectsHaveNothingInCommon() {
        CHECK.sentence("1: one object").rows("days 7 = 7", "measure 0 9 2 = 0", "told 0 0 = 1 : goods 5",
            "says 1 0 2 = 1", "decree 0 0 9 = 1", "levy 8 0 = 0", "pay 0 0 3 = 3", "tape = goods 7");
        CHECK.sentence("1: another object after it").each(0, 7, "count # = 0").rows("measure 0 1 0 = 0",
            "toldOf 0 0 = NONE", "holds 0 0 0 = 1", "declare 0 0 = -100");
    }

    private static void days() {
        CHECK.sentence("2: n days (0 .. 1000) go by: DAY").rows("days 0 = 0", "days 1 = 1", "days 1000 = 1001",
            "days 999 = 2000", "count 5 = 2000");
        CHECK.sentence("2: n days (0 .. 1000). BAD").only(0, 1000, "days #").rows("count 5 = 0", "days 1 = 1")
            .only(0, 1000, "days #").rows("count 5 = 1");
        CHECK.sentence("2: BAD: also if it would be above 100000").each(1, 99, "days 1000 = #000")
            .rows("days 999 = 99999", "days 2 = BAD", "days 1000 = BAD", "count 5 = 99999", "days 1 = 100000",
                "days 1 = BAD", "days 1000 = BAD", "days 0 = 100000", "count 5 = 100000")
            .only(0, 1000, "days #");
    }

    private static void measure() {
        CHECK.sentence("3: A PLOT (0 .. 11) is measured").only(0, 11, "measure # 5 0").rows("count 6 = 0",
            "measure 0 5 0 = 0", "measure 11 5 0 = 0", "count 6 = 2").only(0, 11, "measure # 5 0");
        CHECK.sentence("3: AREA 1 .. 2000").only(1, 2000, "measure 3 # 0").rows("count 6 = 0", "measure 3 1 0 = 0")
            .only(1, 2000, "measure 3 # 0").rows("measure 3 2000 0 = 1", "measure 3 7 0 = 2000");
        CHECK.sentence("3: CLASS 0 .. 2").only(0, 2, "measure 4 5 #").rows("count 6 = 0", "measure 4 5 0 = 0",
            "measure 4 6 2 = 5").only(0, 2, "measure 4 7 #").rows("measure 4 8 1 = 6");
        CHECK.sentence("3: what AREA it had").each(0, 11, "measure # 2000 2 = 0").each(0, 11, "measure # 1 0 = 2000")
            .each(0, 11, "measure # 10# 1 = 1").each(0, 11, "measure # 1 0 = 10#");
        CHECK.sentence("3: the CLASS is as it was measured last").rows("decree 0 0 10 = 1", "decree 1 0 20 = 2",
            "decree 2 0 30 = 3", "told 5 0 = 1 : land 6 1", "measure 6 1 0 = 0", "worth 5 0 0 = 10",
            "measure 6 1 2 = 1", "worth 5 0 0 = 30", "measure 6 1 1 = 1", "worth 5 0 0 = 20", "measure 6 1 3 = BAD",
            "measure 6 0 2 = BAD", "measure 6 2001 2 = BAD", "worth 5 0 0 = 20");
    }
}
