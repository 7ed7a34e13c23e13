import java.lang.reflect.InvocationTargetException;
import java.util.Arrays;

/** One call of the document's face, by its name, so that tests can hold tables of calls. */
record Call(String name, int... arguments) {
    /** The planner is a RatePlanner or a PlainPlanner. */
    long on(Object planner) {
        Class<?>[] types = new Class<?>[arguments.length];
        Arrays.fill(types, int.class);
        Object[] boxed = Arrays.stream(arguments).boxed().toArray();
        try {
            return ((Number) planner.getClass().getMethod(name, types).invoke(planner, boxed)).longValue();
        } catch (InvocationTargetException thrown) {
            throw new IllegalStateException(this + " threw", thrown.getCause());
        } catch (ReflectiveOperationException missing) {
            throw new IllegalStateException(toString(), missing);
        }
    }

    Call with(int index, int argument) {
        int[] others = arguments.clone();
        others[index] = argument;
        return new Call(name, others);
    }

    @Override
    public String toString() {
        String list = Arrays.toString(arguments);
        return name + "(" + list.substring(1, list.length() - 1) + ")";
    }
}
