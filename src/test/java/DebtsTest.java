/** Promise 15: which debts are matched, as known on a day. */
public final class DebtsTest {
    private static final Check CHECK = new Check();

    public static void main(String[] args) {
        matched();
        sameNumber();
        firstThatIsFree();
        ofItsYear();
        asKnownOnADay();
        none();
        refused();
        CHECK.end();
    }

    private static void matched() {
        CHECK.sentence("T3: an OWES of HOUSE a to b with a LENT of b to a").rows("told 0 0 = 2 : owes 1 50,owes 2 50",
            "told 1 0 = 1 : lent 0 50", "match 0 0 = 2", "match 2 0 = 0", "match 1 0 = NONE");
        CHECK.sentence("T3: .. whichever was told first").rows("told 1 0 = 1 : lent 0 50", "told 0 0 = 1 : owes 1 50",
            "match 0 0 = 1", "match 1 0 = 0");
        CHECK.sentence("T3: .. of the first and the last HOUSE").rows("told 9 0 = 2 : owes 0 1,lent 0 2",
            "told 0 0 = 2 : owes 9 2,lent 9 1", "match 0 0 = 3", "match 1 0 = 2", "match 2 0 = 1", "match 3 0 = 0");
        CHECK.sentence("T3: .. not with a LENT to another, nor of another").rows("told 0 0 = 1 : owes 1 50",
            "told 1 0 = 1 : lent 2 50", "told 2 0 = 1 : lent 0 50").each(0, 2, "match # 0 = NONE");
        CHECK.sentence("T3: .. not two who owe, nor two who lent").rows("told 0 0 = 2 : owes 1 50,lent 1 60",
            "told 1 0 = 2 : owes 0 50,lent 0 60").each(0, 3, "match # 0 = NONE");
        CHECK.sentence("T3: .. not the other debt of the same HOUSE").rows("told 0 0 = 2 : owes 1 50,lent 1 50")
            .each(0, 1, "match # 0 = NONE");
    }

    private static void sameNumber() {
        CHECK.sentence("T3: of the same number").rows("told 0 0 = 3 : owes 1 9999,owes 1 1,owes 1 50",
            "told 1 0 = 4 : lent 0 9998,lent 0 2,lent 0 51,lent 0 49").each(0, 6, "match # 0 = NONE")
            .rows("told 1 0 = 3 : lent 0 1,lent 0 9999,lent 0 50", "match 0 0 = 8", "match 1 0 = 7", "match 2 0 = 9");
    }

    private static void firstThatIsFree() {
        CHECK.sentence("T3: the first LENT that is not MATCHED yet").rows("told 0 0 = 2 : owes 1 5,owes 1 5",
            "told 1 0 = 3 : lent 0 5,lent 0 5,lent 0 5", "match 0 0 = 2", "match 1 0 = 3", "match 2 0 = 0",
            "match 3 0 = 1", "match 4 0 = NONE");
        CHECK.sentence("T3: .. one LENT for one OWES").rows("told 1 0 = 1 : lent 0 5",
            "told 0 0 = 2 : owes 1 5,owes 1 5", "match 0 0 = 1", "match 1 0 = 0", "match 2 0 = NONE");
        CHECK.sentence("T3: .. of all LINES that STAND").rows("told 0 0 = 2 : owes 1 5,owes 1 5",
            "told 1 0 = 2 : lent 0 5,lent 0 5", "days 1 = 1", "appeal 0 1 = 1", "match 0 1 = NONE", "match 1 1 = 2",
            "match 2 1 = 1", "match 3 1 = NONE", "match 0 0 = 2", "match 1 0 = 3", "appeal 2 1 = 1", "match 1 1 = 3",
            "match 2 1 = NONE", "appeal 0 0 = 2", "match 0 1 = 3", "match 1 1 = NONE");
        CHECK.sentence("T3: .. of 100 LINES")
            .each(1, 14, "told 0 0 = 6 : owes 1 #,heads 1,heads 1,heads 1,heads 1,heads 1")
            .rows("told 0 0 = 6 : owes 1 15,heads 1,heads 1,heads 1,heads 1,heads 1",
                "told 2 0 = 4 : heads 1,heads 1,heads 1,heads 1",
                "told 1 0 = 6 : lent 0 14,lent 0 13,lent 0 12,lent 0 11,lent 0 10,lent 0 1", "match 0 0 = 99",
                "match 99 0 = 0", "match 78 0 = 94", "match 94 0 = 78", "match 84 0 = NONE");
    }

    private static void ofItsYear() {
        CHECK.sentence("15: for its own YEAR").rows("told 0 4 = 1 : owes 1 5", "told 1 5 = 1 : lent 0 5",
            "told 1 3 = 1 : lent 0 5").each(0, 2, "match # 0 = NONE").rows("told 1 4 = 1 : lent 0 5", "match 0 0 = 3",
            "match 3 0 = 0", "told 0 0 = 1 : owes 1 5", "told 1 30 = 1 : lent 0 5", "match 4 0 = NONE",
            "told 0 30 = 1 : owes 1 5", "match 6 0 = 5");
    }

    private static void asKnownOnADay() {
        CHECK.sentence("15: as known on a DAY").rows("days 3 = 3", "told 0 0 = 1 : owes 1 5", "days 3 = 6",
            "told 1 0 = 1 : lent 0 5", "match 0 2 = NONE", "match 0 3 = NONE", "match 0 5 = NONE", "match 0 6 = 1",
            "match 0 7 = 1", "match 0 100000 = 1", "match 1 5 = NONE", "match 1 6 = 0", "days 3 = 9", "appeal 1 1 = 1",
            "match 0 8 = 1", "match 0 9 = NONE");
    }

    private static void none() {
        CHECK.sentence("15: NONE: with none").rows("told 0 0 = 2 : owes 1 5,lent 1 6", "match 0 0 = NONE",
            "match 1 0 = NONE");
        CHECK.sentence("15: NONE: also: it does not stand").rows("days 1 = 1", "told 0 0 = 1 : owes 1 5",
            "told 1 0 = 1 : lent 0 5", "match 0 1 = 1", "match 0 0 = NONE", "match 1 0 = NONE", "appeal 0 1 = 1",
            "match 0 1 = NONE", "match 1 1 = NONE");
    }

    private static void refused() {
        CHECK.sentence("15: BAD: line").only(0, -1, "match # 0").rows("told 0 0 = 2 : owes 1 5,lent 1 5")
            .only(0, 1, "match # 0");
        CHECK.sentence("15: BAD: day is 0 .. 100000").rows("told 0 0 = 1 : owes 1 5").only(0, 100000, "match 0 #")
            .rows("match 0 0 = NONE", "match 0 100000 = NONE");
        CHECK.sentence("15: NO: it is no DEBT").rows("days 1 = 1", "told 0 0 = 3 : land 1 5,goods 5,heads 5")
            .each(0, 2, "match # 1 = NO").each(0, 2, "match # 0 = NO").rows("appeal 1 1 = 1", "match 1 1 = NO");
        CHECK.sentence("15: BAD stands ahead of NO").rows("told 0 0 = 1 : goods 5").only(0, 100000, "match 0 #");
    }
}
