import java.lang.reflect.InvocationTargetException;
import java.lang.reflect.Method;
import java.util.StringJoiner;

/** A call of the face by its name and arguments, so that a test tells it and does it from one writing. */
record Call(String name, Object... args) {
    String told() {
        StringJoiner text = new StringJoiner(", ", name + "(", ")");
        for (Object arg : args) {
            text.add(String.valueOf(arg));
        }
        return text.toString();
    }

    /** The answer of a stage, or of a model of one, as a text: throws.X if it threw. */
    String on(Object stage) {
        try {
            Method method = methodOf(stage.getClass());
            Object answer = method.invoke(stage, args);
            return method.getReturnType() == void.class ? "nothing" : String.valueOf(answer);
        } catch (InvocationTargetException e) {
            // Only just this class: a subclass of what the document names is not what it names.
            return "throws." + e.getCause().getClass().getSimpleName();
        } catch (IllegalAccessException e) {
            throw new IllegalStateException(told(), e);
        }
    }

    /** What the document lets a call answer that is refused. */
    String refusal() {
        return methodOf(NodeStage.class).getReturnType() == boolean.class ? "false" : "-1";
    }

    private Method methodOf(Class<?> face) {
        for (Method method : face.getDeclaredMethods()) {
            if (method.getName().equals(name) && method.getParameterCount() == args.length) {
                return method;
            }
        }
        throw new IllegalStateException("no method for " + told());
    }
}
