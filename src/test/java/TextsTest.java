/** Promise 6: what a text may be, where its first fault is, and whether there is room for its lines. */
public final class TextsTest {
    private static final Check CHECK = new Check();
    private static final String SEVEN_LINES = "goods 1,goods 2,goods 3,goods 4,goods 5,goods 6,goods 7";

    public static void main(String[] args) {
        oneOrMoreLines();
        numbersOfKinds();
        plotsAndHouses();
        blanks();
        words();
        numbers();
        whatCannotStandThere();
        theEnd();
        theFirstFault();
        places();
        housesAndYears();
        roomForAll();
        CHECK.end();
    }

    /** Texts of house 2, each "answer : text" and on a new object; a text with a fault brings no line. */
    private static void reads(String words, String... texts) {
        for (String text : texts) {
            int came = Math.max(Integer.parseInt(text.substring(0, text.indexOf(" : "))), 0);
            CHECK.sentence(words).rows("told 2 0 = " + text, "count 0 = " + came, "count 4 = 0");
        }
    }

    private static void oneOrMoreLines() {
        reads("T1: one or more LINES", "-100 : ", "1 : goods 1", "2 : goods 1,goods 1",
            "5 : land 1 2,goods 3,heads 4,owes 5 6,lent 7 8", "7 : " + SEVEN_LINES, "7 :  " + SEVEN_LINES + "    ");
        reads("T1: a comma between", "-108 : goods 1 goods 2", "-108 : goods 1,,goods 2", "-100 : ,goods 1",
            "-101 :  ,goods 1", "-108 : goods 1 ; goods 2", "-100 : ,", "-100 : ,,");
        CHECK.sentence("6: how many LINES came").rows("told 3 0 = 3 : land 11 4,owes 0 5,heads 6", "line 0 4 = 11",
            "line 0 5 = 4", "line 1 4 = 0", "line 1 5 = 5", "line 2 4 = NONE", "line 2 5 = 6", "line 3 0 = BAD");
    }

    private static void numbersOfKinds() {
        reads("T1: LAND, so much of it, 1 .. 500", "-107 : land 1 0", "1 : land 1 1", "1 : land 1 500",
            "-107 : land 1 501", "-107 : land 1 9999", "-107 : land 1 4294967297");
        reads("T1: GOODS, 1 .. 9999", "-106 : goods 0", "1 : goods 1", "1 : goods 9999", "-106 : goods 10000",
            "-106 : goods 2147483648", "-106 : goods 4294967295", "-106 : goods 4294967297",
            "-106 : goods 18446744073709551617", "-106 : goods 340282366920938463463374607431768211457",
            "-106 : goods 99999999999999999999999999999999999999999999999999999");
        reads("T1: HEADS, 1 .. 50", "-106 : heads 0", "1 : heads 1", "1 : heads 50", "-106 : heads 51",
            "-106 : heads 500", "-106 : heads 4294967297");
        reads("T1: OWES, 1 .. 9999", "-107 : owes 1 0", "1 : owes 1 1", "1 : owes 1 9999", "-107 : owes 1 10000",
            "-107 : owes 1 4294967297");
        reads("T1: LENT, 1 .. 9999", "-107 : lent 1 0", "1 : lent 1 1", "1 : lent 1 9999", "-107 : lent 1 10000",
            "-107 : lent 1 4294967297");
    }

    private static void plotsAndHouses() {
        reads("T1: PLOTS 0 .. 11", "1 : land 0 1", "1 : land 11 1", "-105 : land 12 1", "-105 : land 4294967296 1",
            "-105 : land 18446744073709551616 1");
        reads("T1: HOUSES are 0 .. 9", "1 : owes 0 1", "1 : owes 9 1", "-105 : owes 10 1", "-105 : owes 4294967296 1",
            "1 : lent 0 1", "1 : lent 9 1", "-105 : lent 10 1", "-105 : lent 4294967296 1");
        reads("T1: a HOUSE is not that itself", "-105 : owes 2 1", "-105 : lent 2 1", "1 : owes 1 2", "1 : lent 3 2",
            "-105 : owes 02 1", "-105 : lent 0002 1", "1 : land 2 2", "-113 : goods 1,owes 2 1");
        CHECK.sentence("T1: the first and the last house itself").rows("told 0 0 = -105 : owes 0 1",
            "told 9 0 = -105 : lent 9 1", "told 0 0 = 1 : owes 9 1", "told 9 0 = 1 : lent 0 1");
    }

    private static void blanks() {
        reads("T1: blanks between, one or more", "1 : goods  1", "1 : land   1     2",
            "1 : goods" + " ".repeat(54) + "1", "-100 : goods1", "-106 : land 1,2", "-104 : land,1 2", "-105 : owes 12",
            "-100 : owes1 2", "-100 : goods\t1", "-100 : goods\0001", "-100 : goods\n1", "-100 : goods\u001f1",
            "-100 : goods!1");
        reads("T1: none is needed beside a comma or at the ends", "2 : goods 1,goods 2", "2 : goods 1 ,goods 2",
            "2 : goods 1, goods 2", "2 :   goods 1   ,   goods 2   ", "1 :  goods 1", "1 : goods 1 ");
    }

    private static void words() {
        reads("T1: A WORD is what stands between blanks, commas and ends", "-100 : land. 1 1", "-100 : lands 1 1",
            "-100 : lan 1 1", "-100 : xland 1 1", "-100 : Land 1 1", "-100 : LAND 1 1", "-100 : good 1",
            "-100 : goodss 1", "-100 : goodz 1", "-100 : head 1", "-100 : headz 1", "-100 : owe 1 1", "-100 : owed 1 1",
            "-100 : lend 1 1", "-100 : len 1 1", "-100 : lent;1 1", "-100 : debt 1 1", "-100 : line 1",
            "-100 : property 1", "-100 : goods-1");
    }

    private static void numbers() {
        reads("T1: a NUMBER is digits alone", "-106 : goods +1", "-106 : goods -1", "-106 : goods 1.",
            "-106 : goods 1/", "-106 : goods /1", "-106 : goods 1:", "-106 : goods :1", "-106 : goods 0x1",
            "-106 : goods 1x", "-106 : goods x", "-106 : goods 1\000", "-106 : goods 1_0", "-105 : land +1 1",
            "-107 : land 1 1e", "-105 : owes 1: 1");
        reads("T1: .. zeros ahead are digits, too", "1 : goods 01", "1 : land 0011 00500", "1 : heads 050",
            "1 : owes 09 09999", "-106 : goods 000", "-108 : land 00 00", "1 : goods " + "0".repeat(53) + "1");
        CHECK.sentence("T1: .. and change no number").rows("told 2 0 = 3 : land 0011 00500,goods 0012,owes 007 003",
            "line 0 4 = 11", "line 0 5 = 500", "line 1 5 = 12", "line 2 4 = 7", "line 2 5 = 3");
    }

    private static void whatCannotStandThere() {
        reads("T1: what can't stand where it is (at its first byte): where a kind is due", "-100 : 7", "-100 : x",
            "-108 : goods 1,7", "-109 : goods 1, ,goods 1", "-103 :    x");
        reads("T1: .. where a PLOT or a HOUSE is due", "-104 : land, goods 1", "-105 : land goods 1",
            "-106 : owes  x 1", "-105 : lent ,1 1", "-106 : owes  lent 1 1");
        reads("T1: .. where a number is due", "-105 : goods,1", "-106 : goods ,1", "-106 : land 1,", "-107 : land 1 ,",
            "-107 : land 1 land 1 1", "-106 : heads heads 1", "-107 : owes 1 x");
        reads("T1: .. where a comma or the end is due", "-109 : land 1 5 5", "-108 : goods 1 2", "-110 : goods 1   x",
            "-108 : goods 1 1,goods 1");
    }

    private static void theEnd() {
        reads("T1: the end, if it comes too soon (the place behind the last byte on THE TAPE)", "-100 : ", "-101 :  ",
            "-104 : land", "-105 : land ", "-107 : land   ", "-106 : land 1", "-107 : land 1 ", "-109 : land 1   ",
            "-105 : goods", "-105 : heads", "-104 : owes", "-106 : owes 1", "-104 : lent", "-106 : lent 1",
            "-108 : goods 1,", "-110 : goods 1,  ", "-110 : goods 1 , ", "-112 : goods 1,land");
        reads("T1: .. of a full tape", "-160 : " + " ".repeat(60), "-160 : goods 1" + " ".repeat(52) + ",",
            "-160 : " + SEVEN_LINES + ",land");
    }

    private static void theFirstFault() {
        reads("T1: The first one is told", "-100 : x y z", "-105 : land 12 0", "-105 : land x 501", "-105 : owes 2 0",
            "-105 : owes 2", "-106 : goods 0,goods 0", "-106 : goods 0 1", "-108 : goods 1,x 1,y",
            "-116 : goods 1,goods 2,bad", "-107 : owes 1 0,");
    }

    private static void places() {
        reads("6: -100 less the place of its fault", "-100 : !", "-159 : " + " ".repeat(59) + "x",
            "-158 : " + " ".repeat(58) + "xx", "-159 : " + SEVEN_LINES + "    x",
            "-156 : " + SEVEN_LINES + ",x", "-159 : goods" + " ".repeat(54) + "0");
    }

    private static void housesAndYears() {
        for (String wrong : new String[] {"-1", "10", "MIN", "MAX"}) {
            CHECK.sentence("6: BAD: a HOUSE is 0 .. 9").rows("told " + wrong + " 0 = BAD : goods 1", "count 0 = 0");
            CHECK.sentence("6: BAD: a YEAR is 0 .. 30").rows("told 0 " + wrong.replace("10", "31") + " = BAD : goods 1",
                "count 0 = 0");
        }
        CHECK.sentence("6: a HOUSE 0 .. 9, a YEAR 0 .. 30").rows("told 0 0 = 1 : goods 1", "told 9 30 = 1 : goods 1",
            "line 0 1 = 0", "line 0 2 = 0", "line 1 1 = 9", "line 1 2 = 30");
        CHECK.sentence("6: BAD stands ahead of a fault").rows("told 10 0 = BAD : x", "told 0 31 = BAD : x",
            "told -1 -1 = BAD : ");
    }

    private static void roomForAll() {
        Sentence room = CHECK.sentence("6: FULL: there is no room for all").each(1, 14, "told 0 0 = 7 : " + SEVEN_LINES)
            .rows("count 0 = 98", "told 0 0 = FULL : goods 1,goods 1,goods 1", "count 0 = 98", "line 98 0 = BAD",
                "told 1 1 = 1 : heads 9", "told 0 0 = FULL : goods 1,goods 1", "count 0 = 99",
                "told 0 0 = FULL : " + SEVEN_LINES);
        room.rows("told 2 2 = 1 : lent 3 8", "count 0 = 100", "line 98 0 = 3", "line 99 0 = 5", "line 99 1 = 2",
            "line 100 0 = BAD", "told 0 0 = FULL : goods 1", "told 0 0 = FULL : " + SEVEN_LINES, "count 0 = 100");
        room.rows("told 0 0 = -106 : goods x");
        CHECK.sentence("6: BAD and a fault stand ahead of FULL").each(1, 14, "told 0 0 = 7 : " + SEVEN_LINES)
            .rows("told 0 0 = -124 : goods 1,goods 1,goods 1,", "told 10 0 = BAD : goods 1,goods 1,goods 1",
                "told 0 31 = BAD : goods 1,goods 1,goods 1", "told 0 0 = 2 : goods 1,goods 1", "told 0 0 = -100 : ",
                "told 0 0 = -106 : goods 0", "told -1 0 = BAD : goods 1");
    }
}
