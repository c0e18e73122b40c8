/** Promises 23 to 27: loans, and the count of credit. */
public final class LoansTest {
    private static final Check CHECK = new Check();

    public static void main(String[] args) {
        sharesAreExact();
        greatestRestsGetMore();
        sharesStayAsLevied();
        leviesAreRefused();
        sharesArePaid();
        creditIsSold();
        CHECK.end();
    }

    private static DeclarationHall withGoods(int... worths) {
        DeclarationHall hall = new DeclarationHall();
        for (int house = 0; house < worths.length; house++) {
            if (worths[house] > 0) {
                Check.declare(hall, house, 0, "goods " + worths[house]);
            }
        }
        return hall;
    }

    private static void shares(DeclarationHall hall, int loan, int... want) {
        for (int house = 0; house < want.length; house++) {
            CHECK.due("share of " + house + " of loan " + loan, want[house], hall.loan(loan, house, 0));
        }
    }

    private static void sharesAreExact() {
        DeclarationHall hall = withGoods(1, 2, 3, 4);
        CHECK.due("levy", 0, hall.levy(100, 0));
        shares(hall, 0, 10, 20, 30, 40, 0, 0, 0, 0, 0, 0);
        CHECK.due("levy", 1, hall.levy(100000, 0));
        shares(hall, 1, 10000, 20000, 30000, 40000, 0);
        CHECK.due("loans", 2, hall.count(3));
    }

    private static void greatestRestsGetMore() {
        DeclarationHall hall = withGoods(1, 5, 5, 2);
        // 10 / 13: rests 10, 11, 11, 7; 3 + 3 + 1 are cut, 3 are left.
        hall.levy(10, 0);
        shares(hall, 0, 1, 4, 4, 1, 0);
        // 9 / 13: rests 9, 6, 6, 5; 3 + 3 + 1, 2 are left: of equals the lesser house.
        hall.levy(9, 0);
        shares(hall, 1, 1, 4, 3, 1, 0);
        DeclarationHall even = withGoods(0, 7, 0, 7, 7);
        even.levy(1, 0);
        shares(even, 0, 0, 1, 0, 0, 0);
        even.levy(2, 0);
        shares(even, 1, 0, 1, 0, 1, 0);
        DeclarationHall least = withGoods(1, 1, 1);
        least.levy(2, 0);
        shares(least, 0, 1, 1, 0, 0);
        DeclarationHall all = withGoods(9, 9, 9, 9, 9, 9, 9, 9, 9, 9);
        all.levy(99999, 0);
        shares(all, 0, 10000, 10000, 10000, 10000, 10000, 10000, 10000, 10000, 10000, 9999);
    }

    private static void sharesStayAsLevied() {
        DeclarationHall hall = withGoods(1, 1);
        hall.levy(10, 0);
        hall.days(1);
        hall.appeal(0, 1);
        shares(hall, 0, 5, 5);
        hall.levy(10, 0);
        shares(hall, 1, 0, 10);
        CHECK.due("another year", Check.NO, hall.levy(10, 1));
    }

    private static void leviesAreRefused() {
        DeclarationHall hall = withGoods(1);
        int[][] bad = {{0, 0}, {-1, 0}, {100001, 0}, {1, -1}, {1, 31}, {Integer.MIN_VALUE, 0}};
        for (int[] a : bad) {
            CHECK.due("levy(" + a[0] + ", " + a[1] + ")", Check.BAD, hall.levy(a[0], a[1]));
        }
        CHECK.due("all worths are 0", Check.NO, hall.levy(1, 1));
        CHECK.due("no loan came", 0, hall.count(3));
        for (int loan = 0; loan < 6; loan++) {
            CHECK.due("loan " + loan, loan, hall.levy(1, 0));
        }
        CHECK.due("a seventh", Check.FULL, hall.levy(1, 0));
        CHECK.due("NO stands ahead of FULL", Check.NO, hall.levy(1, 1));
        CHECK.due("BAD stands ahead of FULL", Check.BAD, hall.levy(0, 0));
        int[][] badLoans = {{-1, 0, 0}, {6, 0, 0}, {0, -1, 0}, {0, 10, 0}, {0, 0, -1}, {0, 0, 3}};
        for (int[] a : badLoans) {
            CHECK.due("loan(" + a[0] + ", " + a[1] + ", " + a[2] + ")", Check.BAD, hall.loan(a[0], a[1], a[2]));
        }
    }

    private static void sharesArePaid() {
        DeclarationHall hall = withGoods(3, 1);
        hall.levy(100, 0);
        hall.levy(8, 0);
        CHECK.due("all but 1", 24, hall.pay(0, 1, 24));
        CHECK.due("the last 1", 1, hall.pay(0, 1, 2));
        CHECK.due("a part", 30, hall.pay(0, 0, 30));
        CHECK.due("paid", 30, hall.loan(0, 0, 1));
        CHECK.due("credit", 30, hall.loan(0, 0, 2));
        CHECK.due("share", 75, hall.loan(0, 0, 0));
        CHECK.due("what is left", 45, hall.pay(0, 0, 100000));
        CHECK.due("nothing is left", Check.NO, hall.pay(0, 0, 1));
        CHECK.due("no share", Check.NO, hall.pay(0, 9, 1));
        CHECK.due("another loan", 6, hall.pay(1, 0, 6));
        CHECK.due("another house", 1, hall.pay(1, 1, 1));
        CHECK.due("count(7)", 25 + 75 + 6 + 1, hall.count(7));
        int[][] bad = {{-1, 0, 1}, {2, 0, 1}, {0, -1, 1}, {0, 10, 1}, {0, 0, 0}, {0, 0, -1}, {0, 0, 100001}};
        for (int[] a : bad) {
            CHECK.due("pay(" + a[0] + ", " + a[1] + ", " + a[2] + ")", Check.BAD, hall.pay(a[0], a[1], a[2]));
        }
        CHECK.due("refused pays change nothing", 107, hall.count(7));
    }

    private static void creditIsSold() {
        DeclarationHall hall = withGoods(1, 1);
        hall.levy(100, 0);
        hall.levy(100, 0);
        hall.pay(0, 0, 40);
        CHECK.due("more than it has", Check.NO, hall.sell(0, 0, 1, 41));
        CHECK.due("of another loan", Check.NO, hall.sell(1, 0, 1, 1));
        CHECK.due("some", 15, hall.sell(0, 0, 1, 15));
        CHECK.due("some more", 20, hall.sell(0, 0, 1, 5));
        CHECK.due("on to another", 20, hall.sell(0, 1, 9, 20));
        CHECK.due("all the rest", 40, hall.sell(0, 0, 9, 20));
        CHECK.due("none is left", Check.NO, hall.sell(0, 0, 1, 1));
        CHECK.due("credit of 0", 0, hall.loan(0, 0, 2));
        CHECK.due("credit of 1", 0, hall.loan(0, 1, 2));
        CHECK.due("credit of 9", 40, hall.loan(0, 9, 2));
        CHECK.due("paid by 0", 40, hall.loan(0, 0, 1));
        CHECK.due("paid by 9", 0, hall.loan(0, 9, 1));
        CHECK.due("left of its share", 10, hall.pay(0, 0, 100));
        CHECK.due("count(7)", 50, hall.count(7));
        int[][] bad = {{-1, 0, 1, 1}, {2, 0, 1, 1}, {0, -1, 1, 1}, {0, 10, 1, 1}, {0, 0, -1, 1}, {0, 0, 10, 1},
            {0, 0, 0, 1}, {0, 0, 1, 0}, {0, 0, 1, -1}, {0, 0, 1, 100001}};
        for (int[] a : bad) {
            CHECK.due("sell(" + a[0] + ", " + a[1] + ", " + a[2] + ", " + a[3] + ")", Check.BAD,
                hall.sell(a[0], a[1], a[2], a[3]));
        }
    }
}
