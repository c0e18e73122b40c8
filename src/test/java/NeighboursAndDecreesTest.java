/** Promises 11 to 14: words of neighbours, and decrees. */
public final class NeighboursAndDecreesTest {
    private static final Check CHECK = new Check();

    public static void main(String[] args) {
        wordsAreSaid();
        moreThanHalfTells();
        latestWordsCount();
        wordsOfOneselfDoNotCount();
        decreesAreGiven();
        latestYearHolds();
        CHECK.end();
    }

    private static void wordsAreSaid() {
        DeclarationHall hall = new DeclarationHall();
        int[][] bad = {{-1, 0, 0}, {10, 0, 0}, {0, -1, 0}, {0, 12, 0}, {0, 0, -1}, {0, 0, 10}};
        for (int[] a : bad) {
            CHECK.due("says(" + a[0] + ", " + a[1] + ", " + a[2] + ")", Check.BAD, hall.says(a[0], a[1], a[2]));
        }
        for (int n = 1; n <= 40; n++) {
            CHECK.due("word " + n, n, hall.says(n % 10, n % 12, (n + 1) % 10));
        }
        CHECK.due("word 41", Check.FULL, hall.says(0, 0, 0));
        CHECK.due("BAD stands ahead of FULL", Check.BAD, hall.says(0, 0, 10));
        CHECK.due("count(1)", 40, hall.count(1));
        CHECK.due("toldOf(-1, 0)", Check.BAD, hall.toldOf(-1, 0));
        CHECK.due("toldOf(12, 0)", Check.BAD, hall.toldOf(12, 0));
        CHECK.due("toldOf(0, -1)", Check.BAD, hall.toldOf(0, -1));
        CHECK.due("toldOf(0, 100001)", Check.BAD, hall.toldOf(0, 100001));
    }

    private static void moreThanHalfTells() {
        DeclarationHall hall = new DeclarationHall();
        hall.says(0, 11, 9);
        CHECK.due("1 of 1", 9, hall.toldOf(11, 0));
        CHECK.due("another plot", Check.NONE, hall.toldOf(10, 0));
        hall.says(1, 11, 8);
        CHECK.due("1 of 2", Check.NONE, hall.toldOf(11, 0));
        hall.says(2, 11, 8);
        CHECK.due("2 of 3", 8, hall.toldOf(11, 0));
        hall.says(3, 11, 7);
        CHECK.due("2 of 4", Check.NONE, hall.toldOf(11, 0));
        hall.says(4, 11, 8);
        CHECK.due("3 of 5", 8, hall.toldOf(11, 100000));
        hall.says(9, 2, 0);
        CHECK.due("the first house", 0, hall.toldOf(2, 0));
    }

    private static void latestWordsCount() {
        DeclarationHall hall = new DeclarationHall();
        hall.days(5);
        hall.says(0, 3, 1);
        hall.days(5);
        hall.says(0, 3, 2);
        hall.says(0, 3, 4);
        hall.days(5);
        hall.says(0, 3, 1);
        int[][] want = {{0, Check.NONE}, {4, Check.NONE}, {5, 1}, {9, 1}, {10, 4}, {14, 4}, {15, 1}, {99999, 1}};
        for (int[] a : want) {
            CHECK.due("toldOf(3, " + a[0] + ")", a[1], hall.toldOf(3, a[0]));
        }
    }

    private static void wordsOfOneselfDoNotCount() {
        DeclarationHall hall = new DeclarationHall();
        hall.says(5, 0, 5);
        CHECK.due("its own word", Check.NONE, hall.toldOf(0, 0));
        hall.says(6, 0, 6);
        hall.says(1, 0, 7);
        CHECK.due("1 of 1 that counts", 7, hall.toldOf(0, 0));
        hall.says(5, 0, 6);
        CHECK.due("1 of 2", Check.NONE, hall.toldOf(0, 0));
        hall.says(5, 0, 5);
        CHECK.due("a word of oneself takes the place of an older one", 7, hall.toldOf(0, 0));
    }

    private static void decreesAreGiven() {
        DeclarationHall hall = new DeclarationHall();
        int[] most = {100, 100, 100, 1000, 1, 1000};
        for (int item = 0; item < 6; item++) {
            CHECK.due("too much of " + item, Check.BAD, hall.decree(item, 0, most[item] + 1));
            CHECK.due("too little of " + item, Check.BAD, hall.decree(item, 0, -1));
            CHECK.due("most of " + item, 2 * item + 1, hall.decree(item, 30, most[item]));
            CHECK.due("least of " + item, 2 * item + 2, hall.decree(item, 0, 0));
            CHECK.due("held most", most[item], hall.holds(item, 30, 0));
            CHECK.due("held least", 0, hall.holds(item, 29, 0));
        }
        int[][] bad = {{-1, 0}, {6, 0}, {0, -1}, {0, 31}, {Integer.MIN_VALUE, 0}, {Integer.MAX_VALUE, 0}};
        for (int[] a : bad) {
            CHECK.due("decree(" + a[0] + ", " + a[1] + ", 0)", Check.BAD, hall.decree(a[0], a[1], 0));
            CHECK.due("holds(" + a[0] + ", " + a[1] + ", 0)", Check.BAD, hall.holds(a[0], a[1], 0));
        }
        CHECK.due("holds(0, 0, -1)", Check.BAD, hall.holds(0, 0, -1));
        CHECK.due("holds(0, 0, 100001)", Check.BAD, hall.holds(0, 0, 100001));
        for (int n = 13; n <= 40; n++) {
            CHECK.due("decree " + n, n, hall.decree(0, 0, n));
        }
        CHECK.due("decree 41", Check.FULL, hall.decree(0, 0, 1));
        CHECK.due("BAD stands ahead of FULL", Check.BAD, hall.decree(0, 0, 101));
        CHECK.due("count(2)", 40, hall.count(2));
        CHECK.due("the last of them", 40, hall.holds(0, 0, 0));
    }

    private static void latestYearHolds() {
        DeclarationHall hall = new DeclarationHall();
        hall.days(10);
        hall.decree(5, 10, 1);
        hall.days(10);
        hall.decree(5, 5, 2);
        hall.days(10);
        hall.decree(5, 10, 3);
        hall.decree(5, 10, 4);
        hall.decree(3, 10, 99);
        int[][] want = {{4, 30, 100}, {5, 19, 100}, {5, 20, 2}, {9, 30, 2}, {10, 9, 100}, {10, 10, 1}, {10, 29, 1},
            {10, 30, 4}, {30, 30, 4}, {30, 100000, 4}};
        for (int[] a : want) {
            CHECK.due("holds(5, " + a[0] + ", " + a[1] + ")", a[2], hall.holds(5, a[0], a[1]));
        }
    }
}
