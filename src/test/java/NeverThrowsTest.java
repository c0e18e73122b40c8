import java.lang.reflect.Method;
import java.lang.reflect.Modifier;
import java.util.Arrays;
import java.util.Comparator;
import java.util.List;
import java.util.Random;

/** No call throws, for any arguments in any state, nor behind the 512th call, whose answers are free. */
public final class NeverThrowsTest {
    private static final int OBJECTS = 40, CALLS = 5000;
    private static final int[] WILD = {Integer.MIN_VALUE, Integer.MIN_VALUE + 1, -1000000005, -101, -100, -2, -1, 12,
        31, 60, 61, 99, 100, 101, 999, 1000, 1001, 2000, 2001, 99999, 100000, 100001, Integer.MAX_VALUE - 1,
        Integer.MAX_VALUE};
    private static final String[] TEXTS = {"land 1 5,goods 7,owes 2 3", "lent 0 3,heads 9,lent 1 3",
        "land 11 500,land 0 1",
        "goods 1,goods 1,goods 1,goods 1,goods 1,goods 1,goods 1", "goods 1,", "\0\u00ff", " ".repeat(60)};

    public static void main(String[] args) {
        List<Method> methods = Arrays.stream(DeclarationHall.class.getDeclaredMethods())
            .filter(method -> Modifier.isPublic(method.getModifiers()))
            .sorted(Comparator.comparing(Method::getName)).toList();
        for (int seed = 0; seed < OBJECTS; seed++) {
            Random random = new Random(seed);
            DeclarationHall hall = new DeclarationHall();
            for (int i = 0; i < CALLS; i++) {
                if (random.nextInt(10) == 0) {
                    Call.toWrite(TEXTS[random.nextInt(TEXTS.length)]).forEach(call -> call.askedOf(hall));
                }
                Method method = methods.get(random.nextInt(methods.size()));
                int[] arguments = random.ints(method.getParameterCount(), 0, 12).map(n -> wildOr(n, random)).toArray();
                new Call(method.getName(), arguments).askedOf(hall);
            }
        }
        System.out.println("none threw");
    }

    private static int wildOr(int n, Random random) {
        return random.nextInt(8) == 0 ? WILD[random.nextInt(WILD.length)] : n;
    }
}
