/** Promises 4 to 10: the tape, declarations, lines and their appeals. */
public final class TextsTest {
    private static final Check CHECK = new Check();

    public static void main(String[] args) {
        tapeIsFed();
        tapeIsTrimmed();
        textsAreRead();
        faultsAreTold();
        tapeIsUsedUp();
        linesTell();
        linesAreOfKinds();
        roomForAllOrNone();
        linesAreAppealed();
        linesStand();
        CHECK.end();
    }

    private static void tapeIsFed() {
        DeclarationHall hall = new DeclarationHall();
        CHECK.due("feed", 12, hall.feed(-1, Integer.MIN_VALUE, Integer.MAX_VALUE));
        hall.trim(1);
        CHECK.due("feed behind 1", 13, hall.feed(1, 2, 3));
        hall.trim(0);
        for (int i = 1; i <= 4; i++) {
            CHECK.due("feed", 12 * i, hall.feed(0, 0, 0));
        }
        CHECK.due("count(4)", 48, hall.count(4));
        CHECK.due("the last that fits", 60, hall.feed(0, 0, 0));
        CHECK.due("one more", Check.FULL, hall.feed(0, 0, 0));
        hall.trim(49);
        CHECK.due("61 bytes", Check.FULL, hall.feed(0, 0, 0));
        CHECK.due("refused feed", 49, hall.count(4));
        hall.trim(0);
        // "good" "s 12" "    ": the highest byte comes first.
        hall.feed(0x676F6F64, 0x73203132, 0x20202020);
        CHECK.due("goods 12", 1, hall.declare(3, 4));
        CHECK.due("its number", 12, hall.line(0, 5));
    }

    private static void tapeIsTrimmed() {
        DeclarationHall hall = new DeclarationHall();
        CHECK.due("trim(0) of none", 0, hall.trim(0));
        CHECK.due("trim(1) of none", Check.BAD, hall.trim(1));
        hall.feed(0, 0, 0);
        CHECK.due("trim(13) of 12", Check.BAD, hall.trim(13));
        CHECK.due("trim(-1)", Check.BAD, hall.trim(-1));
        CHECK.due("trim(12)", 12, hall.trim(12));
        CHECK.due("trim(5)", 5, hall.trim(5));
        CHECK.due("trim(6)", Check.BAD, hall.trim(6));
        CHECK.due("count(4)", 5, hall.count(4));
    }

    private static void reads(String text, int want) {
        DeclarationHall hall = new DeclarationHall();
        CHECK.due("declare \"" + text + "\"", want, Check.declare(hall, 2, 0, text));
        CHECK.due("lines of \"" + text + "\"", Math.max(want, 0), hall.count(0));
        CHECK.due("tape behind \"" + text + "\"", 0, hall.count(4));
    }

    private static void textsAreRead() {
        reads("land 0 1", 1);
        reads("land 11 500", 1);
        reads("goods 9999", 1);
        reads("heads 50", 1);
        reads("owes 9 9999", 1);
        reads("lent 0 1", 1);
        reads("  land   0    1  ", 1);
        reads("goods 1,goods 2", 2);
        reads("goods 1 ,goods 2", 2);
        reads("goods 1, goods 2 ", 2);
        reads("land 0011 00500", 1);
        reads("goods 00000000000000000000000000000000000000000000000000001", 1);
        reads("goods 1,heads 1,goods 1,heads 1,goods 1,heads 1,goods 1", 7);
        reads("land 1 2,goods 3,heads 4,owes 5 6,lent 7 8", 5);
    }

    private static void faultsAreTold() {
        reads("", -100);
        reads("   ", -103);
        reads(",", -100);
        reads(" ,goods 1", -101);
        reads("x", -100);
        reads("Land 1 1", -100);
        reads("lands 1 1", -100);
        reads("lan 1 1", -100);
        reads("goods1", -100);
        reads("7", -100);
        reads("land", -104);
        reads("land  ", -106);
        reads("land,1 1", -104);
        reads("land 12 1", -105);
        reads("land -1 1", -105);
        reads("land 1", -106);
        reads("land 1 ", -107);
        reads("land 1,", -106);
        reads("land 1 0", -107);
        reads("land 1 501", -107);
        reads("land x 501", -105);
        reads("land 1 5 5", -109);
        reads("land 1 5 ,", -110);
        reads("goods 0", -106);
        reads("goods 10000", -106);
        reads("goods 4294967297", -106);
        reads("goods 18446744073709551617", -106);
        reads("goods 1x", -106);
        reads("goods +1", -106);
        reads("goods 1.", -106);
        reads("goods 1/", -106);
        reads("goods 1:", -106);
        reads("goods 1,", -108);
        reads("goods 1,  ", -110);
        reads("goods 1,,goods 1", -108);
        reads("goods 1 goods 1", -108);
        reads("goods\t1", -100);
        reads("goods 1\0", -106);
        reads("goods \u00b1", -106);
        reads("heads 0", -106);
        reads("heads 51", -106);
        reads("owes 2 1", -105);
        reads("owes 02 1", -105);
        reads("owes 10 1", -105);
        reads("owes 1 0", -107);
        reads("owes 1 10000", -107);
        reads("lent 2 1", -105);
        reads("lent 10 1", -105);
        reads("lent 1 10000", -107);
        reads("lent goods 1", -105);
        reads("goods 1,goods 2,bad", -116);
        reads("                                                           x", -159);
        reads("                                                            ", -160);
    }

    private static void tapeIsUsedUp() {
        DeclarationHall hall = new DeclarationHall();
        int[][] bad = {{-1, 0}, {10, 0}, {0, -1}, {0, 31}, {Integer.MAX_VALUE, Integer.MIN_VALUE}};
        for (int[] a : bad) {
            CHECK.due("declare(" + a[0] + ", " + a[1] + ")", Check.BAD, Check.declare(hall, a[0], a[1], "goods 1"));
            CHECK.due("the tape", 0, hall.count(4));
        }
        CHECK.due("BAD stands ahead of a fault", Check.BAD, Check.declare(hall, 10, 0, "x"));
        CHECK.due("no lines", 0, hall.count(0));
        CHECK.due("the last house and year", 1, Check.declare(hall, 9, 30, "goods 1"));
    }

    private static void linesTell() {
        DeclarationHall hall = new DeclarationHall();
        Check.declare(hall, 3, 30, "land 11 500,goods 9");
        hall.days(77);
        Check.declare(hall, 4, 2, "heads 50,owes 3 8, lent 9 7");
        int[][] want = {{1, 3, 30, 0, 11, 500, 0}, {2, 3, 30, 0, Check.NONE, 9, 0}, {3, 4, 2, 77, Check.NONE, 50, 0},
            {4, 4, 2, 77, 3, 8, 1}, {5, 4, 2, 77, 9, 7, 0}};
        hall.appeal(3, 1);
        for (int line = 0; line < want.length; line++) {
            for (int what = 0; what <= 6; what++) {
                CHECK.due("line(" + line + ", " + what + ")", want[line][what], hall.line(line, what));
            }
        }
        CHECK.due("line(5, 0)", Check.BAD, hall.line(5, 0));
        CHECK.due("line(-1, 0)", Check.BAD, hall.line(-1, 0));
        CHECK.due("line(0, -1)", Check.BAD, hall.line(0, -1));
        CHECK.due("line(0, 7)", Check.BAD, hall.line(0, 7));
    }

    private static void linesAreOfKinds() {
        DeclarationHall hall = new DeclarationHall();
        Check.declare(hall, 0, 0, "land 1 1,goods 1,heads 1,owes 1 1,lent 1 1");
        String[] kinds = {"11000001", "10100001", "10010000", "10001010", "10000111"};
        for (int line = 0; line < kinds.length; line++) {
            for (int kind = 0; kind <= 7; kind++) {
                CHECK.due("isOf(" + line + ", " + kind + ")", kinds[line].charAt(kind) - '0', hall.isOf(line, kind));
            }
        }
        CHECK.due("isOf(0, 8)", Check.BAD, hall.isOf(0, 8));
        CHECK.due("isOf(0, -1)", Check.BAD, hall.isOf(0, -1));
        CHECK.due("isOf(5, 0)", Check.BAD, hall.isOf(5, 0));
        CHECK.due("isOf(-1, 0)", Check.BAD, hall.isOf(-1, 0));
    }

    private static void roomForAllOrNone() {
        DeclarationHall hall = new DeclarationHall();
        for (int i = 0; i < 14; i++) {
            Check.declare(hall, 0, 0, "goods 1,goods 1,goods 1,goods 1,goods 1,goods 1,goods 1");
        }
        CHECK.due("lines", 98, hall.count(0));
        CHECK.due("3 into room for 2", Check.FULL, Check.declare(hall, 0, 0, "goods 1,goods 1,goods 1"));
        CHECK.due("lines after FULL", 98, hall.count(0));
        CHECK.due("tape after FULL", 0, hall.count(4));
        CHECK.due("a fault stands ahead of FULL", -124, Check.declare(hall, 0, 0, "goods 1,goods 1,goods 1,"));
        CHECK.due("2 into room for 2", 2, Check.declare(hall, 0, 0, "goods 1,heads 9"));
        CHECK.due("1 into none", Check.FULL, Check.declare(hall, 0, 0, "goods 1"));
        CHECK.due("the last line", 3, hall.line(99, 0));
        CHECK.due("behind it", Check.BAD, hall.line(100, 0));
    }

    private static void linesAreAppealed() {
        DeclarationHall hall = new DeclarationHall();
        CHECK.due("no line yet", Check.BAD, hall.appeal(0, 1));
        Check.declare(hall, 0, 0, "goods 1,goods 2");
        CHECK.due("let stand what stands", Check.NO, hall.appeal(0, 0));
        CHECK.due("strike", 1, hall.appeal(0, 1));
        CHECK.due("strike what is struck", Check.NO, hall.appeal(0, 1));
        CHECK.due("refused appeals are none", 1, hall.line(0, 6));
        CHECK.due("let stand again", 2, hall.appeal(0, 0));
        for (int n = 3; n <= 8; n++) {
            CHECK.due("appeal " + n, n, hall.appeal(0, n % 2));
        }
        CHECK.due("NO stands ahead of FULL", Check.NO, hall.appeal(0, 0));
        CHECK.due("a ninth", Check.FULL, hall.appeal(0, 1));
        CHECK.due("the other line has room", 1, hall.appeal(1, 1));
        int[][] bad = {{-1, 1}, {2, 1}, {0, 2}, {0, -1}};
        for (int[] a : bad) {
            CHECK.due("appeal(" + a[0] + ", " + a[1] + ")", Check.BAD, hall.appeal(a[0], a[1]));
        }
    }

    private static void linesStand() {
        DeclarationHall hall = new DeclarationHall();
        hall.days(10);
        Check.declare(hall, 0, 0, "goods 1");
        hall.days(10);
        hall.appeal(0, 1);
        hall.days(10);
        hall.appeal(0, 0);
        hall.appeal(0, 1);
        hall.days(10);
        hall.appeal(0, 0);
        int[][] want = {{0, 0}, {9, 0}, {10, 1}, {19, 1}, {20, 0}, {29, 0}, {30, 0}, {39, 0}, {40, 1}, {100000, 1}};
        for (int[] a : want) {
            CHECK.due("stands(0, " + a[0] + ")", a[1], hall.stands(0, a[0]));
        }
        CHECK.due("stands(0, -1)", Check.BAD, hall.stands(0, -1));
        CHECK.due("stands(0, 100001)", Check.BAD, hall.stands(0, 100001));
        CHECK.due("stands(1, 0)", Check.BAD, hall.stands(1, 0));
        CHECK.due("stands(-1, 0)", Check.BAD, hall.stands(-1, 0));
    }
}
