/** Promises 1 to 3, and what count tells of them. */
public final class DaysAndPlotsTest {
    private static final Check CHECK = new Check();

    public static void main(String[] args) {
        newObjectIsEmpty();
        daysGoBy();
        plotsAreMeasured();
        CHECK.end();
    }

    private static void newObjectIsEmpty() {
        DeclarationHall hall = new DeclarationHall();
        for (int what = 0; what <= 7; what++) {
            CHECK.due("new: count(" + what + ")", 0, hall.count(what));
        }
        CHECK.due("count(8)", Check.BAD, hall.count(8));
        CHECK.due("count(-1)", Check.BAD, hall.count(-1));
        CHECK.due("new: line(0, 0)", Check.BAD, hall.line(0, 0));
        CHECK.due("new: loan(0, 0, 0)", Check.BAD, hall.loan(0, 0, 0));
        for (int plot = 0; plot < 12; plot++) {
            CHECK.due("new: toldOf", Check.NONE, hall.toldOf(plot, 0));
            CHECK.due("new: measure(" + plot + ")", 0, hall.measure(plot, 1, 0));
        }
        CHECK.due("all measured", 12, hall.count(6));
        int[] atFirst = {1, 1, 1, 0, 1, 100};
        for (int item = 0; item < 6; item++) {
            CHECK.due("new: holds(" + item + ")", atFirst[item], hall.holds(item, 30, 100000));
        }
        hall.days(3);
        CHECK.due("another object has its own day", 0, new DeclarationHall().count(5));
    }

    private static void daysGoBy() {
        DeclarationHall hall = new DeclarationHall();
        CHECK.due("days(0)", 0, hall.days(0));
        CHECK.due("days(-1)", Check.BAD, hall.days(-1));
        CHECK.due("days(1001)", Check.BAD, hall.days(1001));
        CHECK.due("days(max)", Check.BAD, hall.days(Integer.MAX_VALUE));
        CHECK.due("days(min)", Check.BAD, hall.days(Integer.MIN_VALUE));
        CHECK.due("day after refusals", 0, hall.count(5));
        CHECK.due("days(1)", 1, hall.days(1));
        for (int i = 1; i <= 99; i++) {
            CHECK.due("days(1000)", 1 + 1000 * i, hall.days(1000));
        }
        CHECK.due("days beyond the last", Check.BAD, hall.days(1000));
        CHECK.due("days to the last", 100000, hall.days(999));
        CHECK.due("one beyond the last", Check.BAD, hall.days(1));
        CHECK.due("none beyond the last", 100000, hall.days(0));
        CHECK.due("count(5)", 100000, hall.count(5));
    }

    private static void plotsAreMeasured() {
        DeclarationHall hall = new DeclarationHall();
        CHECK.due("measure", 0, hall.measure(11, 2000, 2));
        CHECK.due("measure again", 2000, hall.measure(11, 1, 0));
        CHECK.due("measure a third time", 1, hall.measure(11, 7, 1));
        CHECK.due("one measured", 1, hall.count(6));
        int[][] bad = {{-1, 1, 0}, {12, 1, 0}, {0, 0, 0}, {0, -1, 0}, {0, 2001, 0}, {0, 1, -1}, {0, 1, 3},
            {Integer.MIN_VALUE, 1, 0}, {0, Integer.MAX_VALUE, 0}, {11, 5, 3}};
        for (int[] a : bad) {
            CHECK.due("measure(" + a[0] + ", " + a[1] + ", " + a[2] + ")", Check.BAD, hall.measure(a[0], a[1], a[2]));
        }
        CHECK.due("refused measures change nothing", 7, hall.measure(11, 8, 0));
        CHECK.due("still one measured", 1, hall.count(6));
    }
}
