import java.math.BigInteger;
import java.util.ArrayList;
import java.util.Comparator;
import java.util.HashMap;
import java.util.List;
import java.util.Map;
import java.util.TreeMap;
import java.util.regex.Matcher;
import java.util.regex.Pattern;

/** The document told a second time, as plainly as can be and without a thought of speed. */
final class PlainModel {
    private static final int BAD = Check.BAD, NO = Check.NO, FULL = Check.FULL, NONE = Check.NONE;
    private static final List<String> KINDS = List.of("", "land", "goods", "heads", "owes", "lent");
    private static final Pattern TOKEN = Pattern.compile(",|[^ ,]+", Pattern.DOTALL);

    private record Appeal(int day, boolean strike) { }

    private record Line(int number, int house, int year, int day, int kind, int other, int amount,
        List<Appeal> appeals) {
        boolean standsOn(int when) {
            boolean stands = day <= when;
            for (Appeal appeal : appeals) {
                stands = appeal.day <= when ? !appeal.strike : stands;
            }
            return stands;
        }
    }

    private record Word(int house, int plot, int of, int day) { }

    private record Decree(int item, int year, int value, int day) { }

    private record Loan(int[] shares, int[] paid, int[] credits) { }

    private record Known(Map<Integer, Integer> partners, Map<Integer, Integer> quarrels, List<Integer> worths) { }

    private int today;
    private final int[] areas = new int[12];
    private final int[] classes = new int[12];
    private final StringBuilder tape = new StringBuilder();
    private final List<Line> lines = new ArrayList<>();
    private final List<Word> words = new ArrayList<>();
    private final List<Decree> decrees = new ArrayList<>();
    private final List<Loan> loans = new ArrayList<>();

    private static boolean in(int n, int least, int most) {
        return least <= n && n <= most;
    }

    private static boolean house(int n) {
        return in(n, 0, 9);
    }

    private static boolean year(int n) {
        return in(n, 0, 30);
    }

    private static boolean day(int n) {
        return in(n, 0, 100000);
    }

    int days(int n) {
        if (!in(n, 0, 1000) || today + n > 100000) {
            return BAD;
        }
        return today += n;
    }

    int measure(int plot, int area, int klass) {
        if (!in(plot, 0, 11) || !in(area, 1, 2000) || !in(klass, 0, 2)) {
            return BAD;
        }
        int had = areas[plot];
        areas[plot] = area;
        classes[plot] = klass;
        return had;
    }

    int feed(int a, int b, int c) {
        if (tape.length() > 48) {
            return FULL;
        }
        for (int n : new int[] {a, b, c}) {
            for (int i = 3; i >= 0; i--) {
                tape.append((char) (n >> 8 * i & 255));
            }
        }
        return tape.length();
    }

    int trim(int n) {
        if (!in(n, 0, tape.length())) {
            return BAD;
        }
        tape.setLength(n);
        return n;
    }

    int declare(int house, int year) {
        String text = tape.toString();
        tape.setLength(0);
        if (!house(house) || !year(year)) {
            return BAD;
        }
        List<Line> told = new ArrayList<>();
        int fault = read(text, house, year, told);
        if (fault >= 0) {
            return -100 - fault;
        }
        if (lines.size() + told.size() > 100) {
            return FULL;
        }
        lines.addAll(told);
        return told.size();
    }

    /** Walks through the tokens by what is awaited: a letter for each of what a line still needs. */
    private int read(String text, int house, int year, List<Line> told) {
        Matcher token = TOKEN.matcher(text);
        String awaited = "k";
        int kind = 0;
        int other = NONE;
        while (token.find()) {
            String word = token.group();
            int value = word.matches("[0-9]+") ? new BigInteger(word).min(BigInteger.valueOf(1 << 20)).intValue() : -1;
            char what = awaited.charAt(0);
            awaited = awaited.substring(1);
            boolean fits;
            if (what == 'k') {
                kind = KINDS.indexOf(word);
                other = NONE;
                fits = kind > 0;
                awaited = !fits ? "" : kind == 1 ? "pnc" : kind < 4 ? "nc" : "hnc";
            } else if (what == 'c') {
                fits = word.equals(",");
                awaited = "k";
            } else if (what == 'n') {
                fits = in(value, 1, kind == 1 ? 500 : kind == 3 ? 50 : 9999);
                told.add(new Line(lines.size() + told.size(), house, year, today, kind, other, value, new ArrayList<>()));
            } else {
                fits = what == 'p' ? in(value, 0, 11) : house(value) && value != house;
                other = value;
            }
            if (!fits) {
                return token.start();
            }
        }
        return awaited.equals("c") ? -1 : text.length();
    }

    private boolean line(int n) {
        return in(n, 0, lines.size() - 1);
    }

    int line(int n, int what) {
        if (!line(n) || !in(what, 0, 6)) {
            return BAD;
        }
        Line l = lines.get(n);
        return new int[] {l.kind, l.house, l.year, l.day, l.other, l.amount, l.appeals.size()}[what];
    }

    int isOf(int n, int kind) {
        if (!line(n) || !in(kind, 0, 7)) {
            return BAD;
        }
        int own = lines.get(n).kind;
        List<Integer> kinds = List.of(List.of(0, 1, 7), List.of(0, 2, 7), List.of(0, 3), List.of(0, 4, 6),
            List.of(0, 5, 6, 7)).get(own - 1);
        return kinds.contains(kind) ? 1 : 0;
    }

    int appeal(int n, int strike) {
        if (!line(n) || !in(strike, 0, 1)) {
            return BAD;
        }
        Line l = lines.get(n);
        if (l.standsOn(today) == (strike == 0)) {
            return NO;
        }
        if (l.appeals.size() == 8) {
            return FULL;
        }
        l.appeals.add(new Appeal(today, strike == 1));
        return l.appeals.size();
    }

    int stands(int n, int day) {
        if (!line(n) || !day(day)) {
            return BAD;
        }
        return lines.get(n).standsOn(day) ? 1 : 0;
    }

    int says(int house, int plot, int of) {
        if (!house(house) || !in(plot, 0, 11) || !house(of)) {
            return BAD;
        }
        if (words.size() == 40) {
            return FULL;
        }
        words.add(new Word(house, plot, of, today));
        return words.size();
    }

    int toldOf(int plot, int day) {
        if (!in(plot, 0, 11) || !day(day)) {
            return BAD;
        }
        Map<Integer, Integer> latest = new TreeMap<>();
        words.stream().filter(w -> w.plot == plot && w.day <= day).forEach(w -> latest.put(w.house, w.of));
        latest.entrySet().removeIf(e -> e.getKey().equals(e.getValue()));
        for (int house = 0; house < 10; house++) {
            int of = house;
            if (latest.values().stream().filter(v -> v == of).count() * 2 > latest.size()) {
                return house;
            }
        }
        return NONE;
    }

    int decree(int item, int year, int value) {
        if (!in(item, 0, 5) || !year(year) || !in(value, 0, item < 3 ? 100 : item == 4 ? 1 : 1000)) {
            return BAD;
        }
        if (decrees.size() == 40) {
            return FULL;
        }
        decrees.add(new Decree(item, year, value, today));
        return decrees.size();
    }

    int holds(int item, int year, int day) {
        if (!in(item, 0, 5) || !year(year) || !day(day)) {
            return BAD;
        }
        int value = item == 3 ? 0 : item == 5 ? 100 : 1;
        for (int from = 0; from <= year; from++) {
            for (Decree d : decrees) {
                value = d.item == item && d.day <= day && d.year == from ? d.value : value;
            }
        }
        return value;
    }

    private Known known(int year, int day) {
        List<Line> standing = lines.stream().filter(l -> l.year == year && l.standsOn(day)).toList();
        Map<Integer, Integer> partners = new HashMap<>();
        for (Line owes : standing) {
            standing.stream().filter(lent -> owes.kind == 4 && lent.kind == 5 && owes.house == lent.other
                && owes.other == lent.house && owes.amount == lent.amount && !partners.containsKey(lent.number))
                .findFirst().ifPresent(lent -> {
                    partners.put(owes.number, lent.number);
                    partners.put(lent.number, owes.number);
                });
        }
        Map<Integer, Integer> quarrels = new HashMap<>();
        long[] worths = new long[10];
        for (Line l : standing) {
            int quarrel = quarrelOf(l, day, standing, partners, quarrels);
            quarrels.put(l.number, quarrel);
            worths[l.house] += quarrel == 0 ? value(l, day) : 0;
        }
        List<Integer> all = new ArrayList<>();
        for (long worth : worths) {
            all.add((int) Math.max(0, worth));
        }
        return new Known(partners, quarrels, all);
    }

    private int quarrelOf(Line l, int day, List<Line> standing, Map<Integer, Integer> partners,
        Map<Integer, Integer> quarrels) {
        if (l.kind >= 4) {
            return partners.containsKey(l.number) ? 0 : l.kind;
        }
        if (l.kind != 1) {
            return 0;
        }
        int told = l.amount;
        for (Line earlier : standing) {
            if (earlier.number < l.number && earlier.kind == 1 && earlier.other == l.other
                && quarrels.get(earlier.number) == 0) {
                told += earlier.amount;
            }
        }
        int of = toldOf(l.other, day);
        return areas[l.other] == 0 ? 1 : told > areas[l.other] ? 2 : of != NONE && of != l.house ? 3 : 0;
    }

    private long value(Line l, int day) {
        return switch (l.kind) {
            case 1 -> (long) l.amount * holds(classes[l.other], l.year, day);
            case 3 -> -(long) l.amount * holds(3, l.year, day);
            case 4 -> holds(4, l.year, day) == 1 ? -l.amount : 0;
            case 5 -> holds(4, l.year, day) == 1 ? l.amount : 0;
            default -> l.amount;
        };
    }

    int match(int n, int day) {
        if (!line(n) || !day(day)) {
            return BAD;
        }
        if (lines.get(n).kind < 4) {
            return NO;
        }
        return known(lines.get(n).year, day).partners.getOrDefault(n, NONE);
    }

    int quarrel(int n, int day) {
        if (!line(n) || !day(day)) {
            return BAD;
        }
        return known(lines.get(n).year, day).quarrels.getOrDefault(n, NONE);
    }

    int quarrels(int year, int day) {
        if (!year(year) || !day(day)) {
            return BAD;
        }
        return (int) known(year, day).quarrels.values().stream().filter(q -> q > 0).count();
    }

    int worth(int house, int year, int day) {
        if (!house(house) || !year(year) || !day(day)) {
            return BAD;
        }
        return known(year, day).worths.get(house);
    }

    int tax(int house, int year, int day) {
        if (!house(house) || !year(year) || !day(day)) {
            return BAD;
        }
        return BigInteger.valueOf(worth(house, year, day)).multiply(BigInteger.valueOf(holds(5, year, day)))
            .divide(BigInteger.valueOf(1000)).intValue();
    }

    int taxes(int year, int day) {
        if (!year(year) || !day(day)) {
            return BAD;
        }
        int sum = 0;
        for (int house = 0; house < 10; house++) {
            sum += tax(house, year, day);
        }
        return sum;
    }

    int since(int house, int year) {
        if (!house(house) || !year(year)) {
            return BAD;
        }
        int first = today;
        while (first > 0 && worth(house, year, first - 1) == worth(house, year, today)) {
            first--;
        }
        return first;
    }

    int differs(int year, int day, int other) {
        if (!year(year) || !day(day) || !day(other)) {
            return BAD;
        }
        for (int house = 0; house < 10; house++) {
            if (worth(house, year, day) != worth(house, year, other)) {
                return house;
            }
        }
        return NONE;
    }

    int levy(int sum, int year) {
        if (!in(sum, 1, 100000) || !year(year)) {
            return BAD;
        }
        List<Integer> worths = known(year, today).worths;
        long all = worths.stream().mapToLong(w -> w).sum();
        if (all == 0) {
            return NO;
        }
        if (loans.size() == 6) {
            return FULL;
        }
        int[] shares = new int[10];
        int left = sum;
        List<Integer> byRests = new ArrayList<>();
        for (int house = 0; house < 10; house++) {
            shares[house] = (int) ((long) sum * worths.get(house) / all);
            left -= shares[house];
            byRests.add(house);
        }
        byRests.sort(Comparator.comparing(house -> -((long) sum * worths.get(house) % all)));
        for (int house : byRests.subList(0, left)) {
            shares[house]++;
        }
        loans.add(new Loan(shares, new int[10], new int[10]));
        return loans.size() - 1;
    }

    int loan(int n, int house, int what) {
        if (!in(n, 0, loans.size() - 1) || !house(house) || !in(what, 0, 2)) {
            return BAD;
        }
        Loan loan = loans.get(n);
        return List.of(loan.shares, loan.paid, loan.credits).get(what)[house];
    }

    int pay(int n, int house, int money) {
        if (!in(n, 0, loans.size() - 1) || !house(house) || !in(money, 1, 100000)) {
            return BAD;
        }
        Loan loan = loans.get(n);
        int now = Math.min(money, loan.shares[house] - loan.paid[house]);
        if (now == 0) {
            return NO;
        }
        loan.paid[house] += now;
        loan.credits[house] += now;
        return now;
    }

    int sell(int n, int house, int to, int money) {
        if (!in(n, 0, loans.size() - 1) || !house(house) || !house(to) || house == to || !in(money, 1, 100000)) {
            return BAD;
        }
        int[] credits = loans.get(n).credits;
        if (credits[house] < money) {
            return NO;
        }
        credits[house] -= money;
        return credits[to] += money;
    }

    int count(int what) {
        if (!in(what, 0, 7)) {
            return BAD;
        }
        int measured = 0;
        for (int area : areas) {
            measured += area > 0 ? 1 : 0;
        }
        int credit = 0;
        for (Loan loan : loans) {
            for (int c : loan.credits) {
                credit += c;
            }
        }
        return new int[] {lines.size(), words.size(), decrees.size(), loans.size(), tape.length(), today, measured,
            credit}[what];
    }
}
