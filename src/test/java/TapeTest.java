/** Promises 4 and 5: what comes to the tape and what stays on it; and when it is used up. */
public final class TapeTest {
    private static final Check CHECK = new Check();
    private static final String SIXTY_BLANKS = " ".repeat(60);

    public static void main(String[] args) {
        feed();
        feedIsFull();
        trim();
        usedUp();
        keptByOtherActs();
        CHECK.end();
    }

    private static void feed() {
        CHECK.sentence("4: Twelve bytes come to THE TAPE: how many it has").rows("feed 0 0 0 = 12",
            "feed MIN MAX -1 = 24", "feed -1 -1 -1 = 36", "count 4 = 36", "trim 1 = 1", "feed 1 2 3 = 13");
        CHECK.sentence("4: the highest of each number first").rows("feed 0x676F6F64 0x73203938 0x2C686561 = 12",
            "feed 0x64732037 0x20202020 0x20202020 = 24", "declare 0 0 = 2", "line 0 0 = 2", "line 0 5 = 98",
            "line 1 0 = 3", "line 1 5 = 7");
        CHECK.sentence("4: a byte has 8 bits: none of these is a blank, a comma or a digit")
            .rows("told 0 0 = -100 : goods\u00a01", "told 0 0 = -106 : goods 1\u00acgoods 1",
            "told 0 0 = -106 : goods \u00b1", "told 0 0 = -100 : \u00e7oods 1", "count 0 = 0");
    }

    private static void feedIsFull() {
        CHECK.sentence("4, T1: 60 bytes at most").rows("feed 0 0 0 = 12", "feed 0 0 0 = 24", "feed 0 0 0 = 36",
            "feed 0 0 0 = 48", "feed 0 0 0 = 60", "feed 0 0 0 = FULL", "count 4 = 60");
        CHECK.sentence("4: FULL: it would have more than 60").rows("tape = " + SIXTY_BLANKS, "trim 59 = 59",
            "feed 0 0 0 = FULL", "trim 49 = 49", "feed 0 0 0 = FULL", "count 4 = 49", "trim 48 = 48",
            "feed 0 0 0 = 60");
        CHECK.sentence("4: FULL changes nothing").rows("tape = goods 7" + " ".repeat(42),
            "feed 0x676F6F64 0x73203938 0x2C686561 = FULL", "declare 0 0 = 1", "line 0 5 = 7");
    }

    private static void trim() {
        CHECK.sentence("5: THE TAPE keeps its first n bytes: n").rows("tape = goods 12", "trim 7 = 7",
            "declare 0 0 = 1", "line 0 5 = 1", "tape = goods 1", "trim 6 = 6",
            "feed 0x32202020 0x20202020 0x20202020 = 18", "declare 0 0 = 1", "line 1 5 = 2");
        CHECK.sentence("5: n is 0 at least and what it has at most").rows("tape = goods 1 beyond").only(0, 14, "trim #")
            .rows("count 4 = 14", "trim 14 = 14", "trim 13 = 13", "trim 14 = BAD", "trim 7 = 7", "trim 8 = BAD",
                "trim 0 = 0", "trim 1 = BAD", "trim 0 = 0");
        CHECK.sentence("5: all 60 can be kept").rows("tape = " + SIXTY_BLANKS).only(0, 60, "trim #")
            .rows("trim 60 = 60");
    }

    private static void usedUp() {
        CHECK.sentence("T1: an act that reads it uses it up: lines came").rows("told 0 0 = 1 : goods 1", "count 4 = 0",
            "declare 0 0 = -100", "count 0 = 1");
        CHECK.sentence("T1: .. whatever it answers: a fault").rows("told 0 0 = -108 : goods 1,x", "count 4 = 0",
            "declare 0 0 = -100", "count 0 = 0");
        CHECK.sentence("T1: .. whatever it answers: BAD").rows("told 10 0 = BAD : goods 1", "count 4 = 0",
            "told 0 31 = BAD : goods 1", "count 4 = 0", "declare 0 0 = -100", "count 0 = 0");
        CHECK.sentence("T1: .. whatever it answers: FULL")
            .each(1, 14, "told 0 0 = 7 : goods #,goods 1,goods 1,goods 1,goods 1,goods 1,goods 1")
            .rows("told 0 0 = FULL : goods 1,goods 1,goods 1", "count 4 = 0", "declare 0 0 = -100", "count 0 = 98");
    }

    private static void keptByOtherActs() {
        CHECK.sentence("T1: no other act reads it").rows("told 0 0 = 1 : goods 5", "tape = goods 7", "days 1 = 1",
            "measure 0 1 0 = 0", "line 0 0 = 2", "isOf 0 2 = 1", "appeal 0 1 = 1", "appeal 0 0 = 2", "stands 0 0 = 1",
            "says 1 0 2 = 1", "toldOf 0 0 = NONE", "decree 0 0 1 = 1", "holds 0 0 0 = 1", "match 0 0 = NO",
            "quarrel 0 0 = 0", "quarrels 0 0 = 0", "worth 0 0 0 = 5", "tax 0 0 0 = 0", "taxes 0 0 = 0", "since 0 0 = 0",
            "differs 0 0 1 = NONE", "levy 9 0 = 0", "loan 0 0 0 = 9", "pay 0 0 9 = 9", "sell 0 0 1 9 = 9",
            "count 4 = 7", "declare 0 0 = 1", "line 1 5 = 7");
    }
}
