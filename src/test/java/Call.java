import java.lang.reflect.InvocationTargetException;
import java.lang.reflect.Method;
import java.util.Arrays;
import java.util.stream.Collectors;

/** A call by its name, so that it can be made on the class and on the reference, and be told. */
final class Call {
    final String name;
    private final int[] arguments;

    Call(String name, int... arguments) {
        this.name = name;
        this.arguments = arguments.clone();
    }

    /** Makes calls that are written as "newImage 6 5, addLayer 4 0 0". */
    static void makeAll(Object stack, String calls) {
        for (String each : calls.split(", *")) {
            if (each.isEmpty()) {
                continue;
            }
            Call call = of(each);
            int answer = call.on(stack);
            if (answer < 0) {
                throw new IllegalStateException(call + " answered " + answer);
            }
        }
    }

    /** The call that is written as "newImage 6 5". */
    static Call of(String written) {
        String[] words = written.trim().split(" +");
        int[] numbers = Arrays.stream(words).skip(1).mapToInt(Integer::parseInt).toArray();
        return new Call(words[0], numbers);
    }

    int argument(int index) {
        return arguments[index];
    }

    Call with(int index, int value) {
        int[] others = arguments.clone();
        others[index] = value;
        return new Call(name, others);
    }

    int on(Object stack) {
        Class<?>[] types = new Class<?>[arguments.length];
        Object[] values = new Object[arguments.length];
        for (int i = 0; i < arguments.length; i++) {
            types[i] = int.class;
            values[i] = arguments[i];
        }
        try {
            Method method = stack.getClass().getDeclaredMethod(name, types);
            return (Integer) method.invoke(stack, values);
        } catch (NoSuchMethodException | IllegalAccessException | InvocationTargetException e) {
            throw new IllegalStateException(toString(), e);
        }
    }

    @Override
    public String toString() {
        return name + Arrays.stream(arguments).mapToObj(Integer::toString).collect(Collectors.joining(", ", "(", ")"));
    }
}
