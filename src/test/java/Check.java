import java.util.ArrayList;
import java.util.List;

/** Compares answers with those that are due, and ends a test with 1 if one was another. */
final class Check {
    static final int BAD = -1000000001, NO = -1000000002, FULL = -1000000003, NONE = -1000000005;

    private final List<Sentence> sentences = new ArrayList<>();
    private int wrong;

    /** A sentence of the document, by the number of its promise or of its part of the terms (T1 to T4). */
    Sentence sentence(String words) {
        Sentence sentence = new Sentence(this, words);
        sentences.add(sentence);
        return sentence;
    }

    void due(String call, int want, int got) {
        if (got != want) {
            tell(call + " answered " + got + ", due is " + want);
        }
    }

    void isTrue(String what, boolean holds) {
        if (!holds) {
            tell("is not so: " + what);
        }
    }

    private void tell(String what) {
        wrong++;
        System.out.println(what);
    }

    int wrong() {
        return wrong;
    }

    void end() {
        sentences.forEach(Sentence::compareWithoutRefused);
        System.out.println(wrong == 0 ? "as due" : wrong + " not as due");
        if (wrong != 0) {
            System.exit(1);
        }
    }
}
