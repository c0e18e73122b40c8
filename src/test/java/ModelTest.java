import java.util.List;
import java.util.Random;

/** Runs of up to 512 calls, the same ones each time, answered by the class as by the model. */
public final class ModelTest {
    private static final int RUNS = 600, CALLS = 512;
    private static final String[] NAMES = {"days", "measure", "feed", "trim", "declare", "line", "isOf", "appeal",
        "stands", "says", "toldOf", "decree", "holds", "match", "quarrel", "quarrels", "worth", "tax", "taxes",
        "since", "differs", "levy", "loan", "pay", "sell", "count"};
    private static final int[] EDGES = {Integer.MIN_VALUE, Integer.MAX_VALUE, -1, 0, 1, 8, 9, 10, 11, 12, 30, 31, 100,
        101, 1000, 1001, 2000, 2001, 100000, 100001};

    private final Check check = new Check();
    private final Random random;
    private final int run;
    private final DeclarationHall hall = new DeclarationHall();
    private final PlainModel model = new PlainModel();
    // A run keeps to few houses, plots and years, so that their lines meet.
    private final int houses;
    private final int plots;
    private final int years;
    private int today;

    private ModelTest(int run) {
        this.run = run;
        random = new Random(run);
        houses = 2 + random.nextInt(9);
        plots = 1 + random.nextInt(12);
        years = 1 + random.nextInt(run % 2 == 0 ? 3 : 31);
    }

    public static void main(String[] args) {
        int wrong = 0;
        for (int run = 0; run < RUNS && wrong == 0; run++) {
            wrong = new ModelTest(run).wrongOfRun();
        }
        System.out.println(wrong == 0 ? "as the model" : wrong + " not as the model");
        if (wrong != 0) {
            System.exit(1);
        }
    }

    private int wrongOfRun() {
        int calls = 0;
        while (calls < CALLS && check.wrong() == 0) {
            int dice = random.nextInt(100);
            if (dice < 20) {
                calls += declareText(randomText());
            } else {
                String name = NAMES[random.nextInt(NAMES.length)];
                boolean wild = random.nextInt(12) == 0;
                if (!name.equals("days") || wild || random.nextInt(2) == 0) {
                    call(name, wild ? wildArguments(name) : arguments(name));
                    calls++;
                }
            }
        }
        return check.wrong();
    }

    private int declareText(String text) {
        List<Call> calls = Call.toWrite(text);
        calls.forEach(this::compare);
        call("declare", random.nextInt(houses), random.nextInt(years));
        return calls.size() + 1;
    }

    private String randomText() {
        StringBuilder text = new StringBuilder();
        int lines = 1 + random.nextInt(6);
        for (int i = 0; i < lines; i++) {
            text.append(i == 0 ? "" : ",").append(blanks(0));
            String[] kinds = {"land", "goods", "heads", "owes", "lent", "owes", "lent"};
            String kind = kinds[random.nextInt(kinds.length)];
            text.append(kind).append(blanks(1));
            if (kind.equals("land")) {
                text.append(random.nextInt(plots)).append(blanks(1));
            }
            if (kind.equals("owes") || kind.equals("lent")) {
                text.append(random.nextInt(houses)).append(blanks(1));
            }
            text.append(random.nextInt(8) == 0 ? random.nextInt(12000) : 1 + random.nextInt(4)).append(blanks(0));
        }
        if (random.nextInt(4) == 0 && text.length() > 0) {
            String signs = " ,,09x\0/:\u00ff";
            text.setCharAt(random.nextInt(text.length()), signs.charAt(random.nextInt(signs.length())));
        }
        return text.substring(0, Math.min(text.length(), 60));
    }

    private String blanks(int least) {
        return " ".repeat(least + (random.nextInt(8) == 0 ? 1 + random.nextInt(2) : 0));
    }

    private int[] wildArguments(String name) {
        int[] a = arguments(name);
        a[random.nextInt(a.length)] = EDGES[random.nextInt(EDGES.length)];
        return a;
    }

    private int line() {
        return random.nextInt(Math.max(1, model.count(0)));
    }

    private int day() {
        return random.nextInt(5) == 0 ? random.nextInt(100001) : random.nextInt(today + 2);
    }

    private int house() {
        return random.nextInt(houses);
    }

    private int plot() {
        return random.nextInt(plots);
    }

    private int year() {
        return random.nextInt(years);
    }

    private int loan() {
        return random.nextInt(Math.max(1, model.count(3)));
    }

    private int[] arguments(String name) {
        return switch (name) {
            case "days" -> new int[] {random.nextInt(4)};
            case "measure" -> new int[] {plot(), 1 + random.nextInt(random.nextBoolean() ? 12 : 2000),
                random.nextInt(3)};
            case "feed" -> new int[] {random.nextInt(), random.nextInt(), random.nextInt()};
            case "trim" -> new int[] {random.nextInt(61)};
            case "declare" -> new int[] {house(), year()};
            case "line" -> new int[] {line(), random.nextInt(7)};
            case "isOf" -> new int[] {line(), random.nextInt(8)};
            case "appeal" -> new int[] {line(), random.nextInt(2)};
            case "stands", "match", "quarrel" -> new int[] {line(), day()};
            case "says" -> new int[] {house(), plot(), house()};
            case "toldOf" -> new int[] {plot(), day()};
            case "decree" -> decreeArguments();
            case "holds" -> new int[] {random.nextInt(6), year(), day()};
            case "quarrels", "taxes" -> new int[] {year(), day()};
            case "worth", "tax" -> new int[] {house(), year(), day()};
            case "since" -> new int[] {house(), year()};
            case "differs" -> new int[] {year(), day(), day()};
            case "levy" -> new int[] {1 + random.nextInt(random.nextBoolean() ? 20 : 100000), year()};
            case "loan" -> new int[] {loan(), house(), random.nextInt(3)};
            case "pay" -> new int[] {loan(), house(), 1 + random.nextInt(random.nextBoolean() ? 20 : 100000)};
            case "sell" -> new int[] {loan(), house(), house(), 1 + random.nextInt(10)};
            default -> new int[] {random.nextInt(8)};
        };
    }

    private int[] decreeArguments() {
        int item = random.nextInt(6);
        int most = item < 3 ? 101 : item == 3 ? 3 : item == 4 ? 2 : 1001;
        return new int[] {item, year(), random.nextInt(most)};
    }

    private void call(String name, int... arguments) {
        compare(new Call(name, arguments));
    }

    private void compare(Call call) {
        check.due("run " + run + ": " + call, call.askedOf(model), call.askedOf(hall));
        today = model.count(5);
    }
}
