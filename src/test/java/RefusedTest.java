/**
 * A call that is refused changes nothing (but the tape, where told): each on a hall that has some of everything,
 * and on one that is full of everything. What is compared stands in Sentence.
 */
public final class RefusedTest {
    private static final Check CHECK = new Check();
    private static final String[] BAD_CALLS = {"days -1", "days 1001", "measure 12 5 0", "measure -1 5 0",
        "measure 3 0 0", "measure 3 2001 2", "measure 3 5 3", "measure 3 5 -1", "trim -1", "trim 61", "line 100 0",
        "line 0 7", "isOf 100 0", "isOf 0 8", "appeal 100 1", "appeal 0 2", "appeal -1 0", "stands 100 0",
        "stands 0 100001", "says 10 3 2", "says 1 12 2", "says 1 3 10", "toldOf 12 0", "toldOf 3 -1", "decree 6 0 0",
        "decree 0 31 0", "decree 0 0 101", "decree 3 0 1001", "decree 4 0 2", "decree 5 0 1001", "decree 0 0 -1",
        "holds 6 0 0", "holds 0 31 0", "holds 0 0 100001", "match 100 0", "match 0 100001", "quarrel 100 0",
        "quarrel 0 -1", "quarrels 31 0", "quarrels 0 100001", "worth 10 0 0", "worth 0 31 0", "worth 0 0 100001",
        "tax 10 0 0", "tax 0 31 0", "tax 0 0 -1", "taxes 31 0", "taxes 0 -1", "since 10 0", "since 0 31",
        "differs 31 0 0", "differs 0 -1 0", "differs 0 0 100001", "levy 0 0", "levy 100001 0", "levy 1 31",
        "loan 6 0 0", "loan 0 10 0", "loan 0 0 3", "pay 6 0 1", "pay 0 10 1", "pay 0 0 0", "pay 0 0 100001",
        "sell 6 0 1 1", "sell 0 10 1 1", "sell 0 0 10 1", "sell 0 0 0 1", "sell 0 0 1 0", "sell 0 0 1 100001",
        "count 8", "count -1", "declare 10 0", "declare -1 0", "declare 0 31", "declare 0 -1"};

    public static void main(String[] args) {
        for (String call : BAD_CALLS) {
            some("BAD changes nothing").rows(call + " = BAD");
            full("BAD changes nothing").rows(call + " = BAD");
        }
        noCalls();
        fullCalls();
        faults();
        lastDay();
        CHECK.end();
    }

    /** Some of everything: a line struck, one let stand again, a plot overfull, a text on the tape. */
    private static Sentence some(String words) {
        return CHECK.sentence(words).rows("measure 3 100 1 = 0", "measure 4 7 2 = 0",
            "told 0 0 = 5 : land 3 40,goods 70,heads 2,owes 1 30,lent 1 9", "days 2 = 2",
            "told 1 0 = 3 : lent 0 30,land 3 70,goods 5", "told 2 30 = 2 : goods 4,land 4 7", "says 4 3 1 = 1",
            "decree 1 0 3 = 1", "decree 5 0 500 = 2", "levy 50 0 = 0", "pay 0 1 7 = 7", "sell 0 1 3 2 = 2",
            "days 3 = 5", "appeal 1 1 = 1", "appeal 7 1 = 1", "appeal 7 0 = 2", "says 5 3 0 = 2", "decree 3 0 2 = 3",
            "levy 21 30 = 1", "pay 1 2 21 = 21", "tape = goods 17, heads 3");
    }

    /** Nothing more has room: 100 lines, 8 appeals, 40 words, 40 decrees, 6 loans, 60 bytes. */
    private static Sentence full(String words) {
        Sentence full = CHECK.sentence(words).rows("measure 3 2000 1 = 0")
            .each(10, 23, "told 0 0 = 6 : land 3 #,goods #,owes 1 #,heads 1,goods 1,goods 1")
            .rows("told 0 0 = 4 : goods 1,goods 1,goods 1,goods 1")
            .rows("told 1 0 = 6 : lent 0 10,lent 0 11,lent 0 12,lent 0 13,lent 0 9,lent 2 1")
            .rows("told 2 30 = 6 : goods 1,goods 2,goods 3,goods 4,goods 5,goods 6", "count 0 = 100", "days 1 = 1");
        for (int n = 1; n <= 8; n++) {
            full.rows("appeal 0 " + n % 2 + " = " + n);
        }
        full.rows("appeal 1 1 = 1").each(1, 40, "says 4 3 0 = #").each(1, 40, "decree 1 0 # = #")
            .each(0, 5, "levy 50 0 = #");
        return full.rows("pay 0 0 20 = 20", "pay 5 0 50 = 50", "tape = goods 17,lent 4 9" + " ".repeat(44));
    }

    private static void noCalls() {
        String[] calls = {"appeal 0 0", "appeal 1 1", "appeal 7 0", "match 0 0", "match 1 5", "levy 5 1",
            "levy 100000 29", "pay 1 2 1", "pay 0 9 5", "pay 1 0 100000", "sell 0 1 3 6", "sell 0 3 1 3",
            "sell 0 0 1 1", "sell 1 2 3 22"};
        for (String call : calls) {
            some("NO changes nothing").rows(call + " = NO");
        }
        for (String call : new String[] {"appeal 0 0", "appeal 1 1", "levy 5 1", "pay 5 0 1", "sell 0 0 1 21",
            "match 0 0"}) {
            full("NO changes nothing").rows(call + " = NO");
        }
    }

    private static void fullCalls() {
        String[] calls = {"feed 1 2 3", "appeal 0 1", "says 1 3 2", "says 9 11 9", "decree 0 0 0", "decree 5 30 1000",
            "levy 50 0", "levy 1 30", "declare 3 0"};
        for (String call : calls) {
            full("FULL changes nothing").rows(call + " = FULL");
        }
    }

    private static void faults() {
        String[] texts = {"-100 : ", "-100 : x", "-107 : land 3 501", "-108 : goods 1,", "-114 : owes 3 7,goods",
            "-108 : goods 1 1", "-123 : land 3 1,lent 3 1,owes 0 1"};
        for (String text : texts) {
            some("a fault changes nothing but the tape").rows("told 0 0 = " + text);
            full("a fault changes nothing but the tape").rows("told 0 0 = " + text);
        }
    }

    private static void lastDay() {
        CHECK.sentence("BAD on the last DAY changes nothing").rows("told 0 0 = 1 : goods 1")
            .each(1, 100, "days 1000 = #000")
            .rows("told 0 0 = 1 : goods 1", "days 1 = BAD", "days 1000 = BAD", "count 5 = 100000");
    }
}
