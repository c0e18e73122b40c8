/** Promises 13 and 14: decrees, and what holds for a year as known on a day. */
public final class DecreesTest {
    private static final Check CHECK = new Check();

    public static void main(String[] args) {
        decree();
        values();
        decreesAreForty();
        holds();
        latestYear();
        cameLast();
        knownOnADay();
        CHECK.end();
    }

    private static void decree() {
        CHECK.sentence("13: how many there are").rows("decree 0 0 1 = 1", "decree 5 30 1000 = 2", "decree 0 0 1 = 3",
            "count 2 = 3");
        CHECK.sentence("13: BAD: item is 0 .. 5").only(0, 5, "decree # 0 0").rows("count 2 = 0", "decree 0 0 0 = 1",
            "decree 5 0 0 = 2");
        CHECK.sentence("13: BAD: year is 0 .. 30").only(0, 30, "decree 0 # 0").rows("count 2 = 0", "decree 0 0 0 = 1",
            "decree 0 30 0 = 2");
    }

    private static void values() {
        int[] most = {100, 100, 100, 1000, 1, 1000};
        int[] atFirst = {1, 1, 1, 0, 1, 100};
        for (int item = 0; item < most.length; item++) {
            String decree = "decree " + item + " 0 ";
            String holds = "holds " + item + " 0 0 = ";
            CHECK.sentence("13, T2: BAD: value of ITEM " + item + " is 0 .. " + most[item])
                .only(0, most[item], decree + "#").rows("count 2 = 0", holds + atFirst[item], decree + "0 = 1",
                    holds + 0, decree + most[item] + " = 2", holds + most[item])
                .only(0, most[item], decree + "#").rows(holds + most[item], "count 2 = 2");
        }
    }

    private static void decreesAreForty() {
        CHECK.sentence("13, T2: DECREES, 40 at most; FULL").each(1, 39, "decree 0 0 # = #").rows("decree 1 30 50 = 40",
            "holds 1 30 0 = 50", "decree 1 30 60 = FULL", "holds 1 30 0 = 50", "count 2 = 40", "days 1 = 1",
            "decree 2 0 7 = FULL", "holds 2 0 1 = 1", "holds 0 0 1 = 39", "count 2 = 40");
        CHECK.sentence("13: BAD stands ahead of FULL").each(1, 40, "decree 0 0 # = #").rows("decree 6 0 0 = BAD",
            "decree 0 31 0 = BAD", "decree 0 0 101 = BAD", "decree -1 -1 -1 = BAD", "decree 0 0 0 = FULL");
    }

    private static void holds() {
        CHECK.sentence("14: BAD: item is 0 .. 5").only(0, 5, "holds # 0 0");
        CHECK.sentence("14: BAD: year is 0 .. 30").only(0, 30, "holds 0 # 0");
        CHECK.sentence("14: BAD: day is 0 .. 100000").only(0, 100000, "holds 0 0 #");
        Sentence none = CHECK.sentence("14, T2: none: as at first");
        for (String known : new String[] {"0 0", "0 100000", "30 0", "30 100000"}) {
            none.each(0, 2, "holds # " + known + " = 1").rows("holds 3 " + known + " = 0", "holds 4 " + known + " = 1",
                "holds 5 " + known + " = 100");
        }
        CHECK.sentence("14: of that ITEM alone").rows("decree 0 0 7 = 1", "decree 4 0 0 = 2", "holds 0 0 0 = 7",
            "holds 1 0 0 = 1", "holds 2 0 0 = 1", "holds 3 0 0 = 0", "holds 4 0 0 = 0", "holds 5 0 0 = 100");
    }

    private static void latestYear() {
        CHECK.sentence("T2: from that YEAR or an earlier one").rows("decree 5 10 1 = 1", "holds 5 0 0 = 100",
            "holds 5 9 0 = 100", "holds 5 10 0 = 1", "holds 5 11 0 = 1", "holds 5 30 0 = 1");
        CHECK.sentence("T2: .. from the first YEAR").rows("decree 3 0 5 = 1", "holds 3 0 0 = 5", "holds 3 30 0 = 5");
        CHECK.sentence("T2: .. from the last YEAR").rows("decree 3 30 5 = 1", "holds 3 29 0 = 0", "holds 3 30 0 = 5");
        CHECK.sentence("T2: the one from the latest YEAR, whichever came last").rows("decree 5 10 1 = 1",
            "decree 5 5 2 = 2", "decree 5 0 3 = 3", "holds 5 30 0 = 1", "holds 5 10 0 = 1", "holds 5 9 0 = 2",
            "holds 5 5 0 = 2", "holds 5 4 0 = 3", "decree 5 11 4 = 4", "holds 5 10 0 = 1", "holds 5 11 0 = 4");
    }

    private static void cameLast() {
        CHECK.sentence("T2: of several the one that came last").rows("decree 0 3 10 = 1", "decree 0 3 20 = 2",
            "holds 0 3 0 = 20", "days 1 = 1", "decree 0 3 10 = 3", "holds 0 3 1 = 10", "holds 0 3 0 = 20",
            "decree 0 2 99 = 4", "holds 0 3 1 = 10", "decree 0 3 0 = 5", "holds 0 3 1 = 0", "holds 0 30 1 = 0",
            "holds 0 2 1 = 99");
        CHECK.sentence("T2: .. of several from YEAR 0").rows("decree 1 0 10 = 1", "decree 1 0 20 = 2",
            "holds 1 0 0 = 20");
    }

    private static void knownOnADay() {
        CHECK.sentence("T2: of DECREES of it given up to that DAY").rows("days 10 = 10", "decree 3 5 7 = 1",
            "holds 3 5 0 = 0", "holds 3 5 9 = 0", "holds 3 5 10 = 7", "holds 3 5 11 = 7", "holds 3 5 100000 = 7",
            "days 10 = 20", "decree 3 5 8 = 2", "holds 3 5 19 = 7", "holds 3 5 20 = 8");
        CHECK.sentence("T2: .. given on the last DAY").each(1, 100, "days 1000 = #000").rows("decree 4 0 0 = 1",
            "holds 4 0 99999 = 1", "holds 4 0 100000 = 0");
    }
}
