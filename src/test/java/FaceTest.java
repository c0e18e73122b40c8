import java.lang.reflect.Field;
import java.lang.reflect.Method;
import java.lang.reflect.Modifier;
import java.util.Arrays;
import java.util.Set;
import java.util.TreeSet;

/** The face that the document tells, and no other member. */
public final class FaceTest {
    private static final Check CHECK = new Check();
    private static final String[] FACE = {"days 1", "measure 3", "feed 3", "trim 1", "declare 2", "line 2", "isOf 2",
        "appeal 2", "stands 2", "says 3", "toldOf 2", "decree 3", "holds 3", "match 2", "quarrel 2", "quarrels 2",
        "worth 3", "tax 3", "taxes 2", "since 2", "differs 3", "levy 2", "loan 3", "pay 3", "sell 4", "count 1"};

    public static void main(String[] args) {
        constantsAreThose();
        methodsAreThose();
        nothingElseIsSeen();
        CHECK.end();
    }

    private static void constantsAreThose() {
        CHECK.due("BAD", -1000000001, DeclarationHall.BAD);
        CHECK.due("NO", -1000000002, DeclarationHall.NO);
        CHECK.due("FULL", -1000000003, DeclarationHall.FULL);
        CHECK.due("NONE", -1000000005, DeclarationHall.NONE);
        CHECK.due("constants", 4, DeclarationHall.class.getFields().length);
    }

    private static void methodsAreThose() {
        Set<String> found = new TreeSet<>();
        for (Method method : DeclarationHall.class.getDeclaredMethods()) {
            if (!Modifier.isPrivate(method.getModifiers())) {
                found.add(method.getName() + " " + method.getParameterCount());
                CHECK.isTrue(method + " answers an int", method.getReturnType() == int.class);
                CHECK.isTrue(method + " is public", Modifier.isPublic(method.getModifiers()));
                CHECK.isTrue(method + " takes ints",
                    Arrays.stream(method.getParameterTypes()).allMatch(type -> type == int.class));
            }
        }
        CHECK.isTrue("the face is " + found, found.equals(new TreeSet<>(Arrays.asList(FACE))));
    }

    private static void nothingElseIsSeen() {
        Class<?> hall = DeclarationHall.class;
        CHECK.isTrue("the class is public and final",
            Modifier.isPublic(hall.getModifiers()) && Modifier.isFinal(hall.getModifiers()));
        CHECK.due("constructors", 1, hall.getDeclaredConstructors().length);
        Set<String> names = Set.of("BAD", "NO", "FULL", "NONE");
        for (Field field : hall.getDeclaredFields()) {
            int is = field.getModifiers();
            CHECK.isTrue(field + " is private", Modifier.isPrivate(is) || names.contains(field.getName()));
            CHECK.isTrue(field + " is final", Modifier.isFinal(is));
        }
        for (Class<?> inside : hall.getDeclaredClasses()) {
            CHECK.isTrue(inside + " is static", Modifier.isStatic(inside.getModifiers()));
            namesAreTheirOwn(inside);
        }
        namesAreTheirOwn(hall);
    }

    private static void namesAreTheirOwn(Class<?> type) {
        for (Method method : type.getDeclaredMethods()) {
            boolean isOfFace = Modifier.isPublic(method.getModifiers()) && type == DeclarationHall.class;
            CHECK.isTrue(method + " has a name of its own", isOfFace
                || Arrays.stream(FACE).noneMatch(call -> call.startsWith(method.getName() + " ")));
        }
    }
}
