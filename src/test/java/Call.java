import java.lang.reflect.InvocationTargetException;
import java.lang.reflect.Method;
import java.nio.charset.StandardCharsets;
import java.util.ArrayList;
import java.util.Arrays;
import java.util.List;

/** A call by its name, to be asked of the class or of the model. */
record Call(String name, int... arguments) {
    static final int FEED_BYTES = 12;

    int askedOf(Object object) {
        try {
            Method method = object.getClass().getDeclaredMethod(name, types());
            return (int) method.invoke(object, Arrays.stream(arguments).boxed().toArray());
        } catch (InvocationTargetException thrown) {
            throw new IllegalStateException(this + " threw", thrown.getCause());
        } catch (ReflectiveOperationException none) {
            throw new IllegalStateException("there is no call " + this, none);
        }
    }

    private Class<?>[] types() {
        Class<?>[] types = new Class<?>[arguments.length];
        Arrays.fill(types, int.class);
        return types;
    }

    /** The calls that put exactly this text on the tape, whatever was on it. */
    static List<Call> toWrite(String text) {
        byte[] bytes = text.getBytes(StandardCharsets.ISO_8859_1);
        List<Call> calls = new ArrayList<>();
        calls.add(new Call("trim", 0));
        for (int at = 0; at < bytes.length; at += FEED_BYTES) {
            calls.add(new Call("feed", number(bytes, at), number(bytes, at + 4), number(bytes, at + 8)));
        }
        calls.add(new Call("trim", bytes.length));
        return calls;
    }

    private static int number(byte[] bytes, int at) {
        int number = 0;
        for (int i = at; i < at + 4; i++) {
            number = number << 8 | (i < bytes.length ? bytes[i] & 255 : 0);
        }
        return number;
    }

    @Override
    public String toString() {
        String all = Arrays.toString(arguments);
        return name + "(" + all.substring(1, all.length() - 1) + ")";
    }
}
