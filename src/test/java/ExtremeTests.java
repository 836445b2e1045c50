import java.lang.reflect.InvocationTargetException;
import java.lang.reflect.Method;
import java.lang.reflect.Modifier;
import java.util.Arrays;
import java.util.Comparator;
import java.util.Random;

/**
 * Every method of the face with arguments at and beyond the document's bounds, up to the least and
 * the greatest int, against the model; whatever was refused, all stands as before.
 */
public final class ExtremeTests {
    private static final int[] NUMBERS = {0, 1, 2, 3, -1, -2, 4, 5, 7, 8, 9, 10, 12, 13, 20, 21, 24, 25, -4, -5, -9,
        198, 199, 399, 400, 9999, 10000, -100, -1000000, Integer.MIN_VALUE, Integer.MIN_VALUE + 1,
        Integer.MAX_VALUE, Integer.MAX_VALUE - 1};
    private static final String[][] STATES = {
        {},
        {""},
        {"size 2 2;phase 0 0 100 300 200;"},
        {"size 5 2;phase 0 0 250 100 350 200 50 300 150 0 250;weight 3 9;hole 6;", "least 198;step 0 0 99;step 1 0 99;",
            "size 5 5;phase 0 0 250 90 340 180 10 260 100 350 190 20 270 110 360 200 30 280 120 370 210 40 290 130 380 220;"}};
    /** With those that tell the pictures, and those afterwards, fewer than 512. */
    private static final int CALLS = 440;
    private static final int BATCHES = 6;

    private final Kit kit = new Kit("ExtremeTests");
    private final Random random = new Random(20261120L);

    public static void main(String[] args) throws ReflectiveOperationException {
        ExtremeTests tests = new ExtremeTests();
        for (String[] state : STATES) {
            tests.eachMethod(state);
        }
        tests.kit.finish();
    }

    private void eachMethod(String[] state) throws ReflectiveOperationException {
        Method[] methods = FringeBench.class.getDeclaredMethods();
        Arrays.sort(methods, Comparator.comparing(Method::getName));
        for (Method method : methods) {
            if (Modifier.isPublic(method.getModifiers())) {
                // The model finds what is TOUGH by solving 399 times.
                int batches = method.getName().equals("tough") ? 1 : BATCHES;
                for (int batch = 0; batch < batches; batch++) {
                    oneBatch(state, method, batches == 1 ? 20 : CALLS);
                }
            }
        }
    }

    private void oneBatch(String[] state, Method method, int calls) throws ReflectiveOperationException {
        FringeBench bench = Kit.withPictures(state);
        Model model = new Model();
        for (String text : state) {
            tellModel(model, text);
        }
        boolean hasTest = state.length > 1;
        if (hasTest) {
            Kit.tell(bench, 1, "cost 1;lost 2;high 9999;");
            for (byte sign : "cost 1;lost 2;high 9999;".getBytes()) {
                putOne(model, sign);
            }
            model.text(1, FringeBench.NONE);
        }
        Method ofModel = Model.class.getDeclaredMethod(method.getName(), method.getParameterTypes());
        ofModel.setAccessible(true);
        for (int call = 0; call < calls; call++) {
            Object[] arguments = draw(method.getParameterTypes());
            String told = method.getName() + Arrays.toString(arguments) + " of " + state.length;
            kit.due(told, answer(method, bench, arguments), answer(ofModel, model, arguments));
        }
        for (int picture = 0; picture < 3; picture++) {
            for (int what = 0; what <= 12; what++) {
                kit.due("afterwards picture " + what, bench.picture(picture, what), model.picture(picture, what));
            }
        }
    }

    private static void tellModel(Model model, String text) {
        for (byte sign : text.getBytes()) {
            putOne(model, sign);
        }
        model.text(0, FringeBench.NONE);
    }

    private static void putOne(Model model, byte sign) {
        int have = model.feed(sign << 24, 0, 0, 0, 0);
        model.end(have - 19);
    }

    private Object[] draw(Class<?>[] types) {
        Object[] arguments = new Object[types.length];
        int spread = random.nextInt(3) == 0 ? NUMBERS.length : 8;
        for (int i = 0; i < types.length; i++) {
            boolean odd = random.nextInt(types.length + 1) == 0;
            int number = NUMBERS[random.nextInt(odd ? NUMBERS.length : spread)];
            arguments[i] = types[i] == boolean.class ? (Object) random.nextBoolean() : (Object) number;
        }
        return arguments;
    }

    private static long answer(Method method, Object of, Object[] arguments) throws ReflectiveOperationException {
        try {
            Object answer = method.invoke(of, arguments);
            return answer instanceof Boolean ? (Boolean) answer ? 1 : 0 : ((Number) answer).longValue();
        } catch (InvocationTargetException thrown) {
            throw new IllegalStateException(method + " threw with " + Arrays.toString(arguments), thrown.getCause());
        }
    }
}
