/** Promises 11 and 12: words of neighbours, and of which house a plot is told. */
public final class NeighboursTest {
    private static final Check CHECK = new Check();

    public static void main(String[] args) {
        says();
        wordsAreForty();
        toldOf();
        latestWordCounts();
        moreThanHalf();
        wordsOfItself();
        CHECK.end();
    }

    private static void says() {
        CHECK.sentence("11: how many words there are").rows("says 0 0 9 = 1", "says 9 11 0 = 2", "says 0 0 9 = 3",
            "says 4 4 4 = 4", "count 1 = 4");
        CHECK.sentence("11: BAD: a HOUSE is 0 .. 9").only(0, 9, "says # 0 1").rows("count 1 = 0", "says 0 0 1 = 1",
            "says 9 0 1 = 2");
        CHECK.sentence("11: BAD: a PLOT is 0 .. 11").only(0, 11, "says 0 # 1").rows("count 1 = 0", "says 0 0 1 = 1",
            "says 0 11 1 = 2", "toldOf 0 0 = 1", "toldOf 11 0 = 1");
        CHECK.sentence("11: BAD: of a HOUSE, 0 .. 9").only(0, 9, "says 1 0 #").rows("count 1 = 0", "says 1 0 0 = 1",
            "toldOf 0 0 = 0", "says 1 0 9 = 2", "toldOf 0 0 = 9");
    }

    private static void wordsAreForty() {
        CHECK.sentence("11, T2: WORDS OF NEIGHBOURS, 40 at most; FULL").each(1, 39, "says 0 0 1 = #")
            .rows("says 0 0 2 = 40", "toldOf 0 0 = 2", "says 0 0 3 = FULL", "toldOf 0 0 = 2", "count 1 = 40",
                "days 1 = 1", "says 1 11 3 = FULL", "toldOf 11 1 = NONE", "count 1 = 40");
        CHECK.sentence("11: BAD stands ahead of FULL").each(1, 40, "says 0 0 1 = #").rows("says 10 0 1 = BAD",
            "says 0 12 1 = BAD", "says 0 0 10 = BAD", "says 0 0 1 = FULL");
    }

    private static void toldOf() {
        CHECK.sentence("12: BAD: a PLOT is 0 .. 11").only(0, 11, "toldOf # 0").rows("toldOf 0 0 = NONE",
            "toldOf 11 0 = NONE");
        CHECK.sentence("12: BAD: a DAY is 0 .. 100000").rows("says 0 0 1 = 1").only(0, 100000, "toldOf 0 #")
            .rows("toldOf 0 0 = 1", "toldOf 0 100000 = 1");
        CHECK.sentence("12: each PLOT has words of its own").rows("says 5 0 1 = 1", "says 5 1 2 = 2", "says 5 10 3 = 3",
            "says 5 11 4 = 4", "toldOf 0 0 = 1", "toldOf 1 0 = 2", "toldOf 10 0 = 3", "toldOf 11 0 = 4")
            .each(2, 9, "toldOf # 0 = NONE");
    }

    private static void latestWordCounts() {
        CHECK.sentence("T2: each HOUSE's latest word of a PLOT (up to that DAY) counts").rows("days 5 = 5",
            "says 0 3 1 = 1", "days 5 = 10", "says 0 3 2 = 2", "says 0 3 4 = 3", "days 5 = 15", "says 0 3 1 = 4",
            "toldOf 3 0 = NONE", "toldOf 3 4 = NONE", "toldOf 3 5 = 1", "toldOf 3 9 = 1", "toldOf 3 10 = 4",
            "toldOf 3 14 = 4", "toldOf 3 15 = 1", "toldOf 3 16 = 1", "toldOf 3 100000 = 1");
        CHECK.sentence("T2: .. one word of a HOUSE, however often it said it").rows("says 0 3 1 = 1", "says 0 3 1 = 2",
            "says 0 3 1 = 3", "says 2 3 4 = 4", "toldOf 3 0 = NONE", "says 5 3 4 = 5", "toldOf 3 0 = 4");
        CHECK.sentence("T2: .. of that PLOT alone").rows("says 0 3 1 = 1", "says 0 4 2 = 2", "toldOf 3 0 = 1",
            "toldOf 4 0 = 2");
        CHECK.sentence("T2: a word on the last DAY").each(1, 100, "days 1000 = #000").rows("says 0 0 1 = 1",
            "toldOf 0 99999 = NONE", "toldOf 0 100000 = 1");
    }

    private static void moreThanHalf() {
        CHECK.sentence("T2: TOLD if more than half of the words that count say so; NONE").rows("toldOf 11 0 = NONE",
            "says 0 11 9 = 1", "toldOf 11 0 = 9", "says 1 11 8 = 2", "toldOf 11 0 = NONE", "says 2 11 8 = 3",
            "toldOf 11 0 = 8", "says 3 11 7 = 4", "toldOf 11 0 = NONE", "says 4 11 8 = 5", "toldOf 11 0 = 8");
        CHECK.sentence("T2: .. most of them are not enough").rows("says 0 0 5 = 1", "says 1 0 5 = 2", "says 2 0 6 = 3",
            "says 3 0 7 = 4", "says 4 0 8 = 5", "toldOf 0 0 = NONE", "says 4 0 5 = 6", "toldOf 0 0 = 5");
        CHECK.sentence("T2: .. of all ten HOUSES: 5 are not, 6 are").rows("says 0 0 8 = 1", "says 1 0 8 = 2",
            "says 2 0 8 = 3", "says 3 0 8 = 4", "says 4 0 8 = 5", "says 5 0 4 = 6", "says 6 0 4 = 7", "says 7 0 4 = 8",
            "says 8 0 4 = 9", "toldOf 0 0 = 8", "says 9 0 4 = 10", "toldOf 0 0 = NONE", "says 9 0 8 = 11",
            "toldOf 0 0 = 8");
    }

    private static void wordsOfItself() {
        CHECK.sentence("T2: its own words of itself do not count").rows("says 5 0 5 = 1", "toldOf 0 0 = NONE",
            "says 6 0 6 = 2", "toldOf 0 0 = NONE", "says 1 0 7 = 3", "toldOf 0 0 = 7", "says 7 0 7 = 4",
            "toldOf 0 0 = 7", "says 2 0 5 = 5", "toldOf 0 0 = NONE");
        CHECK.sentence("T2: .. its words of others do").rows("says 5 0 6 = 1", "says 6 0 5 = 2", "toldOf 0 0 = NONE",
            "says 7 0 5 = 3", "toldOf 0 0 = 5");
        CHECK.sentence("T2: .. a word of itself, its latest, does not bring an older one back").rows("says 1 0 7 = 1",
            "says 5 0 6 = 2", "toldOf 0 0 = NONE", "days 1 = 1", "says 5 0 5 = 3", "toldOf 0 1 = 7",
            "toldOf 0 0 = NONE", "says 1 0 1 = 4", "toldOf 0 1 = NONE");
        CHECK.sentence("T2: .. the first and the last HOUSE").rows("says 0 0 0 = 1", "says 9 1 9 = 2",
            "toldOf 0 0 = NONE", "toldOf 1 0 = NONE", "says 9 0 0 = 3", "says 0 1 9 = 4", "toldOf 0 0 = 0",
            "toldOf 1 0 = 9");
    }
}
