/** Promises 7 to 10: what a line tells, its kinds, its appeals, and when it stands. */
public final class LinesTest {
    private static final Check CHECK = new Check();
    private static final String EACH_KIND = " = 5 : land 11 500,goods 9,heads 50,owes 3 8,lent 9 7";

    public static void main(String[] args) {
        line();
        numberedAsTheyCame();
        isOf();
        appeal();
        appealsAreEight();
        stands();
        latestAppeal();
        theLastOfAHundred();
        CHECK.end();
    }

    private static void line() {
        Sentence told = CHECK.sentence("7: Of a LINE: what 0 .. 6").rows("days 77 = 77", "told 4 2" + EACH_KIND,
            "days 1 = 78", "appeal 3 1 = 1", "appeal 3 0 = 2");
        told.rows("line 0 0 = 1", "line 1 0 = 2", "line 2 0 = 3", "line 3 0 = 4", "line 4 0 = 5");
        told.each(0, 4, "line # 1 = 4").each(0, 4, "line # 2 = 2").each(0, 4, "line # 3 = 77");
        told.rows("line 0 4 = 11", "line 1 4 = NONE", "line 2 4 = NONE", "line 3 4 = 3", "line 4 4 = 9");
        told.rows("line 0 5 = 500", "line 1 5 = 9", "line 2 5 = 50", "line 3 5 = 8", "line 4 5 = 7");
        told.rows("line 0 6 = 0", "line 1 6 = 0", "line 2 6 = 0", "line 3 6 = 2", "line 4 6 = 0");
        CHECK.sentence("7: BAD: there is no such LINE").only(0, -1, "line # 0").rows("told 4 2" + EACH_KIND)
            .only(0, 4, "line # 0").only(0, 4, "line # 6").rows("line 0 0 = 1", "line 4 0 = 5");
        CHECK.sentence("7: BAD: what is 0 .. 6").rows("told 4 2" + EACH_KIND).only(0, 6, "line 0 #")
            .only(0, 6, "line 4 #");
        CHECK.sentence("7: the first and the last HOUSE, YEAR and DAY").rows("told 0 0 = 1 : lent 9 1")
            .each(1, 100, "days 1000 = #000").rows("told 9 30 = 1 : land 0 1", "line 0 1 = 0", "line 0 2 = 0",
                "line 0 3 = 0", "line 0 4 = 9", "line 1 1 = 9", "line 1 2 = 30", "line 1 3 = 100000", "line 1 4 = 0");
    }

    private static void numberedAsTheyCame() {
        CHECK.sentence("T1: numbered from 0 as they came").rows("told 1 5 = 2 : goods 10,goods 11",
            "told 0 0 = -106 : goods x", "told 0 3 = 1 : goods 12", "told 1 4 = 2 : goods 13,goods 14")
            .each(0, 4, "line # 5 = 1#").rows("line 5 5 = BAD", "line 2 1 = 0", "line 2 2 = 3", "line 4 2 = 4");
    }

    private static void isOf() {
        String[] kinds = {"11000001", "10100001", "10010000", "10001010", "10000111"};
        Sentence tree = CHECK.sentence("8, T1: All are LINES; OWES and LENT are DEBTS; LAND, GOODS, LENT are PROPERTY")
            .rows("told 4 2" + EACH_KIND);
        for (int line = 0; line < kinds.length; line++) {
            for (int kind = 0; kind <= 7; kind++) {
                tree.rows("isOf " + line + " " + kind + " = " + kinds[line].charAt(kind));
            }
        }
        CHECK.sentence("8: BAD: a KIND is 0 .. 7").rows("told 4 2" + EACH_KIND).only(0, 7, "isOf 0 #")
            .only(0, 7, "isOf 4 #");
        CHECK.sentence("8: BAD: there is no such LINE").only(0, -1, "isOf # 0").rows("told 4 2" + EACH_KIND)
            .only(0, 4, "isOf # 0").only(0, 4, "isOf # 7");
    }

    private static void appeal() {
        CHECK.sentence("9: a LINE is struck (1): how many APPEALS it has").rows("told 0 0 = 2 : goods 1,goods 2",
            "appeal 1 1 = 1", "stands 1 0 = 0", "stands 0 0 = 1", "line 1 6 = 1", "line 0 6 = 0");
        CHECK.sentence("9: or let stand again (0)").rows("told 0 0 = 1 : goods 1", "appeal 0 1 = 1", "appeal 0 0 = 2",
            "stands 0 0 = 1", "line 0 6 = 2");
        CHECK.sentence("9: BAD: there is no such LINE").only(0, -1, "appeal # 1").rows("told 0 0 = 2 : goods 1,goods 2")
            .only(0, 1, "appeal # 1").only(0, 1, "appeal # 0").rows("appeal 0 1 = 1", "appeal 1 1 = 1");
        CHECK.sentence("9: BAD: struck is 1, let stand 0").rows("told 0 0 = 1 : goods 1").only(0, 1, "appeal 0 #")
            .rows("line 0 6 = 0", "appeal 0 1 = 1").only(0, 1, "appeal 0 #").rows("line 0 6 = 1");
        CHECK.sentence("9: NO: it does not stand today (1)").rows("told 0 0 = 1 : goods 1", "appeal 0 1 = 1",
            "appeal 0 1 = NO", "line 0 6 = 1", "days 1 = 1", "appeal 0 1 = NO", "appeal 0 0 = 2");
        CHECK.sentence("9: NO: it stands (0)").rows("told 0 0 = 1 : goods 1", "appeal 0 0 = NO", "line 0 6 = 0",
            "days 1 = 1", "appeal 0 0 = NO", "appeal 0 1 = 1", "appeal 0 0 = 2", "appeal 0 0 = NO", "line 0 6 = 2");
    }

    private static void appealsAreEight() {
        Sentence full = CHECK.sentence("9: FULL: it has 8").rows("told 0 0 = 2 : goods 1,goods 2");
        for (int n = 1; n <= 8; n++) {
            full.rows("appeal 0 " + n % 2 + " = " + n, "days 1 = " + n);
        }
        full.rows("appeal 0 1 = FULL", "line 0 6 = 8", "stands 0 8 = 1", "stands 0 100000 = 1");
        full.rows("appeal 1 1 = 1", "appeal 1 0 = 2", "line 0 6 = 8");
        full.rows("stands 0 0 = 0", "stands 0 1 = 1", "stands 0 6 = 0", "stands 0 7 = 1");
        CHECK.sentence("9: NO stands ahead of FULL, BAD ahead of both").rows("told 0 0 = 1 : goods 1", "appeal 0 1 = 1",
            "appeal 0 0 = 2", "appeal 0 1 = 3", "appeal 0 0 = 4", "appeal 0 1 = 5", "appeal 0 0 = 6", "appeal 0 1 = 7",
            "appeal 0 1 = NO", "appeal 0 0 = 8", "appeal 0 0 = NO", "appeal 0 1 = FULL", "appeal 0 2 = BAD",
            "appeal 1 1 = BAD");
    }

    private static void stands() {
        CHECK.sentence("T1: STANDS, if it was written on that DAY or ahead").rows("days 10 = 10",
            "told 0 0 = 1 : goods 1", "stands 0 0 = 0", "stands 0 9 = 0", "stands 0 10 = 1", "stands 0 11 = 1",
            "stands 0 100000 = 1");
        CHECK.sentence("10: a DAY (0 .. 100000)").rows("told 0 0 = 1 : goods 1").only(0, 100000, "stands 0 #")
            .rows("stands 0 0 = 1", "stands 0 100000 = 1");
        CHECK.sentence("10: BAD: there is no such LINE").only(0, -1, "stands # 0")
            .rows("told 0 0 = 2 : goods 1,goods 2")
            .only(0, 1, "stands # 0").rows("stands 1 0 = 1");
        CHECK.sentence("10: on the last DAY").each(1, 100, "days 1000 = #000").rows("told 0 0 = 1 : goods 1",
            "stands 0 99999 = 0", "stands 0 100000 = 1", "appeal 0 1 = 1", "stands 0 100000 = 0", "stands 0 99999 = 0");
    }

    private static void latestAppeal() {
        CHECK.sentence("T1: of its APPEALS up to that DAY (that one, too) the latest did not strike it")
            .rows("days 10 = 10", "told 0 0 = 1 : goods 1", "days 10 = 20", "appeal 0 1 = 1", "stands 0 19 = 1",
                "stands 0 20 = 0", "stands 0 21 = 0", "days 10 = 30", "appeal 0 0 = 2", "stands 0 29 = 0",
                "stands 0 30 = 1", "stands 0 31 = 1", "stands 0 19 = 1", "stands 0 9 = 0");
        CHECK.sentence("T1: .. of several on one DAY the latest").rows("told 0 0 = 1 : goods 1", "appeal 0 1 = 1",
            "appeal 0 0 = 2", "stands 0 0 = 1", "days 5 = 5", "appeal 0 1 = 3", "appeal 0 0 = 4", "appeal 0 1 = 5",
            "stands 0 4 = 1", "stands 0 5 = 0", "stands 0 0 = 1", "stands 0 100000 = 0");
    }

    private static void theLastOfAHundred() {
        Sentence last = CHECK.sentence("7 to 10, T1: the last of 100 LINES")
            .each(1, 16, "told 0 0 = 6 : goods #,goods 1,goods 1,goods 1,goods 1,goods 1")
            .rows("days 1 = 1", "told 8 29 = 4 : goods 1,goods 2,heads 3,lent 9 4", "line 99 0 = 5", "line 99 1 = 8",
                "line 99 2 = 29", "line 99 3 = 1", "line 99 4 = 9", "line 99 5 = 4", "isOf 99 6 = 1", "isOf 99 4 = 0");
        for (int n = 1; n <= 8; n++) {
            last.rows("appeal 99 " + n % 2 + " = " + n);
        }
        last.rows("appeal 99 1 = FULL", "line 99 6 = 8", "line 98 6 = 0", "stands 99 1 = 1", "stands 99 0 = 0",
            "line 100 0 = BAD", "isOf 100 0 = BAD", "appeal 100 1 = BAD", "stands 100 1 = BAD");
    }
}
