import java.lang.reflect.InvocationTargetException;
import java.lang.reflect.Method;
import java.util.Arrays;
import java.util.List;
import java.util.NoSuchElementException;

/** A call by its name, so that rows of arguments can stand in tables. */
record Call(String name, int... args) {
    /** The answer of a call that throws NoSuchElementException. */
    static final long THROWN = Long.MIN_VALUE;
    private static final List<String> THROWING = List.of("check", "qubit", "edge");

    /** A boolean counts 1 or 0; any exception that the document does not name ends the test. */
    long on(WovenKeeper x) {
        Class<?>[] types = new Class<?>[args.length];
        Arrays.fill(types, int.class);
        Object[] values = Arrays.stream(args).boxed().toArray();
        try {
            Method method = WovenKeeper.class.getMethod(name, types);
            Object answer = method.invoke(x, values);
            return answer instanceof Boolean b ? (b ? 1 : 0) : ((Number) answer).longValue();
        } catch (InvocationTargetException e) {
            if (e.getCause().getClass() == NoSuchElementException.class && THROWING.contains(name)) {
                return THROWN;
            }
            throw new AssertionError(this + " threw", e.getCause());
        } catch (ReflectiveOperationException e) {
            throw new AssertionError("there is no " + this, e);
        }
    }

    /** What a call answers that is refused. */
    long refusal() {
        if (THROWING.contains(name)) {
            return THROWN;
        }
        return List.of("end", "image", "restore").contains(name) ? 0 : WovenKeeper.NONE;
    }

    @Override
    public String toString() {
        return name + Arrays.toString(args).replace('[', '(').replace(']', ')');
    }
}
