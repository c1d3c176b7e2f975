import java.lang.reflect.InvocationTargetException;
import java.lang.reflect.Method;
import java.util.HashMap;
import java.util.Map;

/** Calls told as text, "lay 3 0 1", made on a CartFloor or on an Oracle. */
final class Calls {
    private final Object floor;
    private final Map<String, Method> methods = new HashMap<>();
    private int made = 0;

    private Calls(Object floor) {
        this.floor = floor;
        for (Method method : floor.getClass().getDeclaredMethods()) {
            methods.put(method.getName() + "/" + method.getParameterCount(), method);
        }
    }

    static Calls onFloor(int width, int height) {
        return new Calls(new CartFloor(width, height));
    }

    static Calls onOracle(int width, int height) {
        return new Calls(new Oracle(width, height));
    }

    /** How many calls of the document's face were made. */
    int made() {
        return made;
    }

    static int number(String word) {
        return word.equals("MIN") ? Integer.MIN_VALUE : word.equals("MAX") ? Integer.MAX_VALUE : Integer.parseInt(word);
    }

    /** The answer, a boolean being 1 or 0; "told 0012" and "way 0" stand for several calls. */
    String answer(String call) {
        String[] words = call.trim().split("\\s+");
        if (words[0].equals("told")) {
            return tellAll(words.length > 1 ? words[1] : "");
        }
        if (words[0].equals("way")) {
            return way(number(words[1]));
        }
        return String.valueOf(one(words));
    }

    private String tellAll(String moves) {
        answer("hush");
        String last = "0";
        for (char move : moves.toCharArray()) {
            last = answer("tell " + move + " 1");
        }
        return last;
    }

    private String way(int c) {
        StringBuilder text = new StringBuilder();
        int end = number(answer("about " + c + " 1"));
        for (int t = 0; t < end; t++) {
            text.append(answer("at " + c + " " + t + " 3"));
        }
        return end == 0 ? "none" : text.toString();
    }

    private long one(String[] words) {
        Method method = methods.get(words[0] + "/" + (words.length - 1));
        if (method == null) {
            throw new IllegalArgumentException("no such call: " + String.join(" ", words));
        }
        Object[] arguments = new Object[words.length - 1];
        for (int i = 0; i < arguments.length; i++) {
            String word = words[i + 1];
            boolean truth = method.getParameterTypes()[i] == boolean.class;
            arguments[i] = truth ? (Object) Boolean.valueOf(word) : (Object) number(word);
        }
        made++;
        try {
            Object answer = method.invoke(floor, arguments);
            return answer instanceof Boolean ? (Boolean) answer ? 1 : 0 : ((Number) answer).longValue();
        } catch (IllegalAccessException | InvocationTargetException e) {
            throw new IllegalStateException(String.join(" ", words) + " threw " + e.getCause(), e);
        }
    }
}
