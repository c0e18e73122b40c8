import java.nio.charset.StandardCharsets;

/** Compares answers with those that are due, and brings texts to the tape. */
final class Check {
    static final int BAD = -1000000001, NO = -1000000002, FULL = -1000000003, NONE = -1000000005;

    private int wrong;

    void due(String call, int want, int got) {
        if (got != want) {
            wrong++;
            System.out.println(call + " answered " + got + ", due is " + want);
        }
    }

    void isTrue(String what, boolean holds) {
        if (!holds) {
            wrong++;
            System.out.println("is not so: " + what);
        }
    }

    int wrong() {
        return wrong;
    }

    void end() {
        System.out.println(wrong == 0 ? "as due" : wrong + " not as due");
        if (wrong != 0) {
            System.exit(1);
        }
    }

    /** Puts exactly this text on an empty tape. */
    static void write(DeclarationHall hall, String text) {
        byte[] bytes = text.getBytes(StandardCharsets.ISO_8859_1);
        for (int at = 0; at < bytes.length; at += 12) {
            hall.feed(number(bytes, at), number(bytes, at + 4), number(bytes, at + 8));
        }
        hall.trim(bytes.length);
    }

    static int declare(DeclarationHall hall, int house, int year, String text) {
        write(hall, text);
        return hall.declare(house, year);
    }

    static int number(byte[] bytes, int at) {
        int number = 0;
        for (int i = at; i < at + 4; i++) {
            number = number << 8 | (i < bytes.length ? bytes[i] & 255 : 0);
        }
        return number;
    }
}
