/** Promises 23 to 26: loans by exact shares, paid in parts, credit sold. */
public final class LoansTest {
    private static final Check CHECK = new Check();

    public static void main(String[] args) {
        exactShares();
        greatestRests();
        onTheDayOfTheLevy();
        levyIsRefused();
        loansAreSix();
        loan();
        pay();
        payIsRefused();
        sell();
        sellIsRefused();
        CHECK.end();
    }

    /** Goods of so much for the houses from 0 on, for year 0. */
    private static Sentence withGoods(String words, int... worths) {
        Sentence sentence = CHECK.sentence(words);
        for (int house = 0; house < worths.length; house++) {
            if (worths[house] > 0) {
                sentence.rows("told " + house + " 0 = 1 : goods " + worths[house]);
            }
        }
        return sentence;
    }

    private static void shares(Sentence sentence, int loan, int... shares) {
        for (int house = 0; house < 10; house++) {
            int share = house < shares.length ? shares[house] : 0;
            sentence.rows("loan " + loan + " " + house + " 0 = " + share);
        }
    }

    private static void exactShares() {
        Sentence even = withGoods("T4: sum * WORTH / all WORTHS", 1, 2, 3, 4).rows("levy 100 0 = 0",
            "levy 100000 0 = 1");
        shares(even, 0, 10, 20, 30, 40);
        shares(even, 1, 10000, 20000, 30000, 40000);
        Sentence one = withGoods("T4: .. all from one HOUSE", 0, 0, 0, 0, 0, 0, 0, 0, 0, 7).rows("levy 1 0 = 0",
            "levy 100000 0 = 1");
        shares(one, 0, 0, 0, 0, 0, 0, 0, 0, 0, 0, 1);
        shares(one, 1, 0, 0, 0, 0, 0, 0, 0, 0, 0, 100000);
        Sentence great = withGoods("T4: sum * WORTH can be beyond an int", 9999, 9999, 1).rows("levy 100000 0 = 0");
        // 9999 * 100000 / 19999 = 49997 rest 9997; 100000 / 19999 = 5 rest 5; 1 is left.
        shares(great, 0, 49998, 49997, 5);
    }

    private static void greatestRests() {
        // 10 / 13: rests 10, 11, 11, 7; 3 + 3 + 1 are cut, 3 are left.
        Sentence rests = withGoods("T4: what is left comes 1 by 1 to those of the greatest rests", 1, 5, 5, 2)
            .rows("levy 10 0 = 0", "levy 9 0 = 1", "levy 13 0 = 2");
        shares(rests, 0, 1, 4, 4, 1);
        // 9 / 13: rests 9, 6, 6, 5; 3 + 3 + 1 are cut, 2 are left.
        shares(rests, 1, 1, 4, 3, 1);
        shares(rests, 2, 1, 5, 5, 2);
        Sentence equal = withGoods("T4: .. (of several the lesser HOUSE)", 0, 7, 0, 7, 7).rows("levy 1 0 = 0",
            "levy 2 0 = 1", "levy 3 0 = 2", "levy 4 0 = 3");
        shares(equal, 0, 0, 1);
        shares(equal, 1, 0, 1, 0, 1);
        shares(equal, 2, 0, 1, 0, 1, 1);
        shares(equal, 3, 0, 2, 0, 1, 1);
        Sentence all = withGoods("T4: .. 9 left for ten HOUSES", 9, 9, 9, 9, 9, 9, 9, 9, 9, 9).rows("levy 99999 0 = 0",
            "levy 9 0 = 1", "levy 1 0 = 2", "levy 11 0 = 3");
        shares(all, 0, 10000, 10000, 10000, 10000, 10000, 10000, 10000, 10000, 10000, 9999);
        shares(all, 1, 1, 1, 1, 1, 1, 1, 1, 1, 1);
        shares(all, 2, 1);
        shares(all, 3, 2, 1, 1, 1, 1, 1, 1, 1, 1, 1);
        Sentence last = withGoods("T4: .. to the last HOUSE", 1, 0, 0, 0, 0, 0, 0, 0, 0, 2).rows("levy 1 0 = 0",
            "levy 2 0 = 1");
        shares(last, 0, 0, 0, 0, 0, 0, 0, 0, 0, 0, 1);
        shares(last, 1, 1, 0, 0, 0, 0, 0, 0, 0, 0, 1);
    }

    private static void onTheDayOfTheLevy() {
        Sentence today = withGoods("23: levied today, for a YEAR: WORTHS as known on the DAY of the levy", 1, 1)
            .rows("levy 10 0 = 0", "days 1 = 1", "appeal 0 1 = 1", "levy 10 0 = 1", "told 2 1 = 1 : goods 5",
                "levy 10 1 = 2", "appeal 0 0 = 2", "levy 10 0 = 3");
        shares(today, 0, 5, 5);
        shares(today, 1, 0, 10);
        shares(today, 2, 0, 0, 10);
        shares(today, 3, 5, 5);
    }

    private static void levyIsRefused() {
        withGoods("23: BAD: sum is 1 .. 100000", 5).only(1, 100000, "levy # 0").rows("count 3 = 0", "levy 1 0 = 0",
            "levy 100000 0 = 1");
        withGoods("23: BAD: year is 0 .. 30", 5).only(0, 30, "levy 1 #").rows("count 3 = 0", "levy 1 0 = 0",
            "told 0 30 = 1 : goods 5", "levy 1 30 = 1");
        withGoods("23: NO: all WORTHS are 0", 5).rows("levy 1 1 = NO", "levy 100000 30 = NO", "count 3 = 0",
            "decree 3 0 5 = 1", "told 0 0 = 1 : heads 1", "levy 1 0 = NO", "told 9 0 = 1 : goods 1", "levy 1 0 = 0");
        withGoods("23: BAD stands ahead of NO").rows("levy 0 0 = BAD", "levy 100001 0 = BAD", "levy 1 31 = BAD",
            "levy 1 -1 = BAD", "levy 1 0 = NO");
    }

    private static void loansAreSix() {
        withGoods("23, T4: LOANS, 6 at most: its number; FULL", 5).each(0, 5, "levy 1# 0 = #").rows("levy 1 0 = FULL",
            "count 3 = 6").each(0, 5, "loan # 0 0 = 1#").rows("loan 6 0 0 = BAD", "days 1 = 1", "levy 100000 0 = FULL");
        withGoods("23: NO and BAD stand ahead of FULL", 5).each(0, 5, "levy 1 0 = #").rows("levy 1 1 = NO",
            "levy 0 0 = BAD", "levy 100001 0 = BAD", "levy 1 31 = BAD", "levy 1 0 = FULL");
    }

    private static void loan() {
        withGoods("24: what 0 its share, 1 what it paid, 2 its CREDIT", 3, 1).rows("levy 100 0 = 0", "levy 8 0 = 1",
            "pay 0 0 30 = 30", "sell 0 0 1 10 = 10", "loan 0 0 0 = 75", "loan 0 0 1 = 30", "loan 0 0 2 = 20",
            "loan 0 1 0 = 25", "loan 0 1 1 = 0", "loan 0 1 2 = 10", "loan 1 0 0 = 6", "loan 1 0 1 = 0",
            "loan 1 0 2 = 0", "loan 1 1 0 = 2");
        withGoods("24: BAD: there is no such LOAN", 3).only(0, -1, "loan # 0 0").rows("levy 1 0 = 0", "levy 2 0 = 1")
            .only(0, 1, "loan # 0 0").rows("loan 0 0 0 = 1", "loan 1 0 0 = 2");
        withGoods("24: BAD: a HOUSE is 0 .. 9", 3, 0, 0, 0, 0, 0, 0, 0, 0, 3).rows("levy 2 0 = 0", "levy 4 0 = 1")
            .only(0, 9, "loan 0 # 0").only(0, 9, "loan 1 # 0").rows("loan 0 0 0 = 1", "loan 0 9 0 = 1",
            "loan 1 0 0 = 2");
        withGoods("24: BAD: what is 0 .. 2", 3).rows("levy 2 0 = 0").only(0, 2, "loan 0 0 #").rows("loan 0 0 0 = 2",
            "loan 0 0 2 = 0");
    }

    private static void pay() {
        withGoods("25: n on its share, at most what is left of it: how much it paid now", 3, 1).rows("levy 100 0 = 0",
            "pay 0 1 24 = 24", "pay 0 1 2 = 1", "loan 0 1 1 = 25", "pay 0 0 75 = 75", "loan 0 0 1 = 75",
            "loan 0 0 2 = 75");
        withGoods("25: .. one more than is left", 3, 1).rows("levy 100 0 = 0", "pay 0 0 76 = 75",
            "pay 0 1 100000 = 25");
        withGoods("25: NO: nothing is left", 3, 1).rows("levy 100 0 = 0", "pay 0 1 25 = 25", "pay 0 1 1 = NO",
            "pay 0 1 100000 = NO", "pay 0 2 1 = NO", "pay 0 9 1 = NO", "loan 0 1 1 = 25", "loan 0 1 2 = 25",
            "loan 0 9 1 = 0");
        withGoods("25: what was sold is paid all the same", 3).rows("levy 10 0 = 0", "pay 0 0 10 = 10",
            "sell 0 0 1 10 = 10", "pay 0 0 1 = NO", "loan 0 0 1 = 10", "pay 0 1 1 = NO");
        withGoods("25: each LOAN by itself", 3).rows("levy 10 0 = 0", "levy 20 0 = 1", "pay 0 0 100 = 10",
            "pay 1 0 100 = 20", "loan 0 0 2 = 10", "loan 1 0 2 = 20");
        withGoods("25: the greatest share at once", 3).rows("levy 100000 0 = 0", "pay 0 0 100000 = 100000",
            "loan 0 0 2 = 100000", "pay 0 0 1 = NO");
    }

    private static void payIsRefused() {
        withGoods("25: n is 1 .. 100000", 3).rows("levy 100000 0 = 0").only(1, 100000, "pay 0 0 #")
            .rows("loan 0 0 1 = 0", "pay 0 0 1 = 1", "pay 0 0 100000 = 99999");
        withGoods("25: BAD: there is no such LOAN", 3).only(0, -1, "pay # 0 1").rows("levy 5 0 = 0", "levy 5 0 = 1")
            .only(0, 1, "pay # 0 1").rows("count 7 = 0", "pay 1 0 5 = 5");
        withGoods("25: BAD: a HOUSE is 0 .. 9", 3, 0, 0, 0, 0, 0, 0, 0, 0, 3).rows("levy 4 0 = 0", "levy 4 0 = 1")
            .only(0, 9, "pay 0 # 1").only(0, 9, "pay 1 # 1").rows("count 7 = 0", "pay 0 0 2 = 2", "pay 0 9 2 = 2");
        withGoods("25: BAD stands ahead of NO", 3).rows("levy 4 0 = 0", "pay 0 0 4 = 4", "pay 0 0 0 = BAD",
            "pay 0 0 100001 = BAD", "pay 0 10 1 = BAD", "pay 1 0 1 = BAD", "pay 0 0 1 = NO");
    }

    private static void sell() {
        withGoods("26: n of its CREDIT to another one: what CREDIT that has", 1, 1).rows("levy 100 0 = 0",
            "pay 0 0 40 = 40", "sell 0 0 1 15 = 15", "sell 0 0 1 5 = 20", "sell 0 1 9 20 = 20", "sell 0 0 9 20 = 40",
            "loan 0 0 2 = 0", "loan 0 1 2 = 0", "loan 0 9 2 = 40", "loan 0 0 1 = 40", "loan 0 9 1 = 0", "count 7 = 40");
        withGoods("26: to one with CREDIT of its own, and back", 1, 1).rows("levy 100 0 = 0", "pay 0 0 50 = 50",
            "pay 0 1 50 = 50", "sell 0 0 1 50 = 100", "sell 0 1 0 100 = 100", "loan 0 1 2 = 0");
        withGoods("26: the greatest CREDIT at once", 1).rows("levy 100000 0 = 0", "pay 0 0 100000 = 100000",
            "sell 0 0 9 100000 = 100000", "loan 0 0 2 = 0", "loan 0 9 2 = 100000");
    }

    private static void sellIsRefused() {
        withGoods("26: NO: it has not so much", 1, 1).rows("levy 100 0 = 0", "levy 100 0 = 1", "sell 0 0 1 1 = NO",
            "pay 0 0 40 = 40", "sell 0 0 1 41 = NO", "sell 0 0 1 100000 = NO", "sell 1 0 1 1 = NO", "sell 0 1 0 1 = NO",
            "loan 0 0 2 = 40", "loan 0 1 2 = 0", "sell 0 0 1 40 = 40", "sell 0 0 1 1 = NO");
        withGoods("26: n is 1 .. 100000", 1).rows("levy 100000 0 = 0", "pay 0 0 100000 = 100000")
            .only(1, 100000, "sell 0 0 1 #").rows("loan 0 0 2 = 100000", "sell 0 0 1 1 = 1");
        withGoods("26: BAD: also the same", 1).rows("levy 10 0 = 0", "pay 0 0 10 = 10").each(0, 9, "sell 0 # # 1 = BAD")
            .rows("loan 0 0 2 = 10");
        withGoods("26: BAD: there is no such LOAN", 1).only(0, -1, "sell # 0 1 1").rows("levy 10 0 = 0",
            "pay 0 0 10 = 10")
            .only(0, 0, "sell # 0 1 1").rows("count 7 = 10");
        withGoods("26: BAD: a HOUSE is 0 .. 9", 1, 0, 0, 0, 0, 0, 0, 0, 0, 1).rows("levy 10 0 = 0", "levy 10 0 = 1",
            "pay 0 9 5 = 5", "pay 1 0 5 = 5").only(0, 9, "sell 0 # 1 1").only(0, 9, "sell 1 # 1 1")
            .only(0, 9, "sell 0 9 # 1").only(0, 9, "sell 1 0 # 1").rows("sell 0 9 0 1 = 1", "sell 1 0 9 1 = 1");
        withGoods("26: BAD stands ahead of NO", 1).rows("levy 10 0 = 0", "sell 0 0 0 1 = BAD", "sell 0 0 1 0 = BAD",
            "sell 0 0 1 100001 = BAD", "sell 0 0 10 1 = BAD", "sell 0 10 0 1 = BAD", "sell 1 0 1 1 = BAD",
            "sell 0 0 1 1 = NO");
    }
}
