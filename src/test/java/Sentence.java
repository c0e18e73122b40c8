import java.util.ArrayList;
import java.util.Arrays;
import java.util.List;
import java.util.Map;
import java.util.Set;
import java.util.TreeSet;

/**
 * One sentence of the document, held by calls on a new object, each with the answer that is due. At its end the
 * object is compared with another one that was never asked what was refused: that must have changed nothing.
 */
final class Sentence {
    private static final int MOST_CALLS = 512, LEAST_ROOM = 30;
    private static final int HOUSES = 10, PLOTS = 12, ITEMS = 6, LAST_DAY = 100000, LAST_YEAR = 30;
    private static final Map<String, Integer> NAMED = Map.of("BAD", Check.BAD, "NO", Check.NO, "FULL", Check.FULL,
        "NONE", Check.NONE, "MIN", Integer.MIN_VALUE, "MAX", Integer.MAX_VALUE);

    private final Check check;
    private final String words;
    private final DeclarationHall hall = new DeclarationHall();
    private final List<Call> asked = new ArrayList<>();
    private final List<Call> taken = new ArrayList<>();

    Sentence(Check check, String words) {
        this.check = check;
        this.words = words;
    }

    /**
     * "call arguments = answer" asks and compares; "tape = text" puts a text on the tape, and
     * "told house year = answer : text" declares it, too.
     */
    Sentence rows(String... rows) {
        for (String row : rows) {
            ask(row);
        }
        return this;
    }

    /** A row for each number from the least to the most, which stands where # is. */
    Sentence each(int least, int most, String row) {
        for (int n = least; n <= most; n++) {
            ask(row.replace("#", String.valueOf(n)));
        }
        return this;
    }

    /** A call is BAD with what stands next to a range on either side, and farthest from it, where # is. */
    Sentence only(int least, int most, String call) {
        for (int n : new int[] {least - 1, most + 1, Integer.MIN_VALUE, Integer.MAX_VALUE}) {
            ask(call.replace("#", String.valueOf(n)) + " = BAD");
        }
        return this;
    }

    private void ask(String row) {
        int behindCall = row.indexOf(" = ");
        String call = row.substring(0, behindCall);
        String due = row.substring(behindCall + 3);
        if (call.equals("tape")) {
            Call.toWrite(due).forEach(this::answer);
        } else if (call.startsWith("told ")) {
            int behindDue = due.indexOf(" : ");
            Call.toWrite(due.substring(behindDue + 3)).forEach(this::answer);
            compare(row, callOf(call.replace("told", "declare")), numberOf(due.substring(0, behindDue)));
        } else {
            compare(row, callOf(call), numberOf(due));
        }
    }

    private void compare(String row, Call call, int due) {
        check.due(words + "\n    " + row, due, answer(call));
    }

    private int answer(Call call) {
        int answer = call.askedOf(hall);
        asked.add(call);
        if (!isRefused(call, answer)) {
            taken.add(call);
        } else if (call.name().equals("declare")) {
            taken.add(new Call("trim", 0));
        }
        return answer;
    }

    private static boolean isRefused(Call call, int answer) {
        boolean isFault = call.name().equals("declare") && answer <= -100;
        return isFault || answer == Check.BAD || answer == Check.NO || answer == Check.FULL;
    }

    private static Call callOf(String text) {
        String[] parts = text.split(" ");
        int[] arguments = new int[parts.length - 1];
        for (int i = 0; i < arguments.length; i++) {
            arguments[i] = numberOf(parts[i + 1]);
        }
        return new Call(parts[0], arguments);
    }

    private static int numberOf(String text) {
        return NAMED.containsKey(text) ? NAMED.get(text) : (int) (long) Long.decode(text);
    }

    void compareWithoutRefused() {
        int room = MOST_CALLS - asked.size();
        int needed = asked.equals(taken) ? 0 : LEAST_ROOM;
        check.isTrue(words + ": " + asked.size() + " calls are not too many", room >= needed);
        if (needed == 0 || room < needed) {
            return;
        }
        List<Call> questions = questions();
        for (int at = 0; at < questions.size(); at += room) {
            compareAnswers(questions.subList(at, Math.min(at + room, questions.size())));
        }
        compareAnswers(questionsThatChange());
    }

    private void compareAnswers(List<Call> questions) {
        DeclarationHall with = replayed(asked);
        DeclarationHall without = replayed(taken);
        for (Call question : questions) {
            check.due(words + "\n    a refused call changed what " + question, question.askedOf(without),
                question.askedOf(with));
        }
    }

    private static DeclarationHall replayed(List<Call> calls) {
        DeclarationHall other = new DeclarationHall();
        calls.forEach(call -> call.askedOf(other));
        return other;
    }

    private List<Call> questions() {
        DeclarationHall known = replayed(taken);
        int lines = known.count(0);
        int today = known.count(5);
        Set<Integer> days = new TreeSet<>(List.of(0, Math.max(today - 1, 0), today, LAST_DAY));
        Set<Integer> years = new TreeSet<>(List.of(0, LAST_YEAR));
        List<Call> questions = new ArrayList<>();
        addRow(questions, "count", 8);
        taken.stream().filter(call -> call.name().equals("declare")).forEach(call -> years.add(call.arguments()[1]));
        for (int line = 0; line < lines; line++) {
            addRow(questions, "line", 7, line);
            for (int day : days) {
                questions.add(new Call("stands", line, day));
                questions.add(new Call("quarrel", line, day));
                questions.add(new Call("match", line, day));
            }
        }
        for (int loan = 0; loan < known.count(3); loan++) {
            for (int house = 0; house < HOUSES; house++) {
                addRow(questions, "loan", 3, loan, house);
            }
        }
        addKnown(questions, days, years);
        return questions;
    }

    private static void addKnown(List<Call> questions, Set<Integer> days, Set<Integer> years) {
        for (int day : days) {
            for (int plot = 0; plot < PLOTS; plot++) {
                questions.add(new Call("toldOf", plot, day));
            }
            for (int year : years) {
                for (int item = 0; item < ITEMS; item++) {
                    questions.add(new Call("holds", item, year, day));
                }
                for (int house = 0; house < HOUSES; house++) {
                    questions.add(new Call("tax", house, year, day));
                    questions.add(new Call("worth", house, year, day));
                }
            }
        }
        for (int year : years) {
            for (int house = 0; house < HOUSES; house++) {
                questions.add(new Call("since", house, year));
            }
        }
    }

    /** The call with each number below the bound behind the arguments. */
    private static void addRow(List<Call> questions, String name, int bound, int... arguments) {
        for (int last = 0; last < bound; last++) {
            int[] all = Arrays.copyOf(arguments, arguments.length + 1);
            all[arguments.length] = last;
            questions.add(new Call(name, all));
        }
    }

    /** What can only be learned by acts: the areas, and what stands on the tape. */
    private static List<Call> questionsThatChange() {
        List<Call> questions = new ArrayList<>();
        for (int plot = 0; plot < PLOTS; plot++) {
            questions.add(new Call("measure", plot, 1, 0));
        }
        questions.add(new Call("declare", 9, 30));
        questions.add(new Call("worth", 9, 30, LAST_DAY));
        questions.add(new Call("count", 0));
        return questions;
    }
}
