import java.lang.reflect.InvocationTargetException;
import java.lang.reflect.Method;
import java.lang.reflect.Modifier;
import java.util.Arrays;

/** Every call with arguments near and far beyond all bounds: nothing is thrown but what its face names. */
public final class ExtremeTest {
    private static final Check CHECK = new Check();
    private static final int[] NUMBERS = {Integer.MIN_VALUE, -11, -2, -1, 0, 1, 2, 5, 8, 10, 13, 20, 57, 60, 61, Integer.MAX_VALUE};
    private static final String[] TEXTS = {"", "deed 0;", "deed 3 0;person 0 0 0 to 0 0;",
        "deed 0 1 0 0 0 0 0 0;deed 0 0 0 0 2 0 0 9;deed 0 0 0 0 0 0 0 0;deed 0;deed 0 0 0;deed 1 0 0 0 0 0 0 0;"
        + "stile 0 0;stile 0 7;stile 1 7;stile 4 0;person 0 0 9 to 2 0;person 5 7 1 to 5 0;person 2 2 2 to 0 0;"
        + "person 0 0 1;person 0 1 3 to 0 7;person 5 0 0 to 5 0;goes 9/(far-3)-0-9*9*9*9 or 1;fades 1/(ink-1);"};

    private ExtremeTest() {
    }

    public static void main(String[] args) throws IllegalAccessException {
        for (String text : TEXTS) {
            for (Method method : MarginWays.class.getDeclaredMethods()) {
                if (Modifier.isPublic(method.getModifiers())) {
                    callAll(text, method);
                }
            }
        }
        CHECK.end("ExtremeTest");
    }

    private static void callAll(String text, Method method) throws IllegalAccessException {
        MarginWays x = Check.told(text);
        int many = Math.min(3, method.getParameterCount());
        int all = (int) Math.pow(NUMBERS.length, many);
        for (int row = 0; row < all; row++) {
            // what is called behind an object's 512th call is free
            x = row % 400 == 399 ? Check.told(text) : x;
            int left = row;
            Object[] arguments = new Object[method.getParameterCount()];
            for (int i = 0; i < arguments.length; i++) {
                int number = NUMBERS[left % NUMBERS.length];
                arguments[i] = method.getParameterTypes()[i] == boolean.class ? (Object) (number > 0) : (Object) number;
                left /= NUMBERS.length;
            }
            call(x, method, arguments);
        }
    }

    private static void call(MarginWays x, Method method, Object[] arguments) throws IllegalAccessException {
        try {
            method.invoke(x, arguments);
            CHECK.isTrue("an answer", true);
        } catch (InvocationTargetException e) {
            boolean named = Arrays.asList(method.getExceptionTypes()).contains(e.getCause().getClass());
            CHECK.isTrue(method.getName() + Arrays.toString(arguments) + " throws " + e.getCause(), named);
        }
    }
}
