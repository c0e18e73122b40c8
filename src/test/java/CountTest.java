/** Promise 27: how many there are. */
public final class CountTest {
    private static final Check CHECK = new Check();

    public static void main(String[] args) {
        CHECK.sentence("27: BAD: what is 0 .. 7").only(0, 7, "count #").each(0, 7, "count # = 0");
        CHECK.sentence("27: 0 LINES").rows("told 0 0 = 2 : goods 1,goods 1", "count 0 = 2", "appeal 0 1 = 1",
            "count 0 = 2", "told 0 0 = -100 : x", "count 0 = 2").each(1, 7, "count # = 0");
        CHECK.sentence("27: 1 words").rows("says 0 0 1 = 1", "says 0 0 1 = 2", "says 0 12 1 = BAD", "count 1 = 2",
            "count 0 = 0")
            .each(2, 7, "count # = 0");
        CHECK.sentence("27: 2 DECREES").rows("decree 0 0 1 = 1", "decree 0 0 1 = 2", "decree 6 0 1 = BAD",
            "count 2 = 2")
            .each(0, 1, "count # = 0").each(3, 7, "count # = 0");
        CHECK.sentence("27: 3 LOANS").rows("told 0 0 = 1 : goods 1", "levy 5 0 = 0", "levy 5 1 = NO", "levy 5 0 = 1",
            "count 3 = 2").each(1, 2, "count # = 0").each(4, 7, "count # = 0");
        CHECK.sentence("27: 4 bytes of THE TAPE").rows("feed 0 0 0 = 12", "count 4 = 12", "feed 0 0 0 = 24",
            "trim 23 = 23", "trim 24 = BAD", "count 4 = 23").each(0, 3, "count # = 0").each(5, 7, "count # = 0")
            .rows("declare 0 0 = -100", "count 4 = 0");
        CHECK.sentence("27: 5 DAY").rows("days 1000 = 1000", "days 1001 = BAD", "count 5 = 1000")
            .each(0, 4, "count # = 0")
            .each(6, 7, "count # = 0");
        CHECK.sentence("27: 6 PLOTS that are measured").rows("measure 0 1 0 = 0", "count 6 = 1", "measure 0 2 0 = 1",
            "count 6 = 1", "measure 11 2000 2 = 0", "count 6 = 2", "measure 5 0 0 = BAD", "count 6 = 2", "count 7 = 0")
            .each(0, 5, "count # = 0").each(1, 10, "measure # 1 0 = 0").rows("count 6 = 12");
        CHECK.sentence("27: 7 CREDIT of all together").rows("told 0 0 = 1 : goods 3", "told 9 0 = 1 : goods 1",
            "levy 100 0 = 0", "count 7 = 0", "pay 0 0 30 = 30", "count 7 = 30", "pay 0 9 100 = 25", "count 7 = 55",
            "sell 0 0 5 30 = 30", "count 7 = 55", "pay 0 9 1 = NO", "count 7 = 55");
        CHECK.sentence("27: .. of all LOANS").rows("told 9 0 = 1 : goods 3").each(0, 5, "levy 100000 0 = #")
            .each(0, 5, "pay # 9 100000 = 100000").rows("count 7 = 600000", "count 3 = 6");
        CHECK.end();
    }
}
