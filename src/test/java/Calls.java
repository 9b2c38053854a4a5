import java.lang.reflect.Method;

/** Calls that are told as texts, such as "tank(200, 10, 20, 5)", made on any object that has the class's face. */
final class Calls {
    private Calls() {
    }

    static int answer(Object net, String call) {
        int open = call.indexOf('(');
        String inside = call.substring(open + 1, call.lastIndexOf(')')).strip();
        String[] told = inside.isEmpty() ? new String[0] : inside.split("\\s*,\\s*");
        Class<?>[] types = new Class<?>[told.length];
        Object[] arguments = new Object[told.length];
        for (int i = 0; i < told.length; i++) {
            boolean isTruth = told[i].equals("true") || told[i].equals("false");
            types[i] = isTruth ? boolean.class : int.class;
            arguments[i] = isTruth ? (Object) Boolean.valueOf(told[i]) : (Object) Integer.valueOf(told[i]);
        }
        try {
            Method method = net.getClass().getDeclaredMethod(call.substring(0, open).strip(), types);
            return (Integer) method.invoke(net, arguments);
        } catch (ReflectiveOperationException e) {
            throw new IllegalStateException(call + " gave no answer", e);
        }
    }
}
