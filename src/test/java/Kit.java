import java.lang.reflect.InvocationTargetException;
import java.lang.reflect.Method;
import java.lang.reflect.Modifier;
import java.nio.charset.StandardCharsets;

/** What the tests share: telling texts to a bench, and counting the answers that are not due. */
final class Kit {
    private final String name;
    /** Which test runs, to be told with an answer that is not due. */
    private String test = "";
    private int wrong;
    private int asked;

    Kit(String name) {
        this.name = name;
    }

    void due(String call, long got, long want) {
        asked++;
        if (got != want) {
            wrong++;
            if (wrong <= 40) {
                System.out.println(test + call + " answered " + got + ", due is " + want);
            }
        }
    }

    void due(String call, boolean got, boolean want) {
        due(call, got ? 1 : 0, want ? 1 : 0);
    }

    boolean isClean() {
        return wrong == 0;
    }

    /** Runs every method without arguments, so that no test is forgotten; each must ask something. */
    void runEach(Object tests) throws IllegalAccessException {
        for (Method method : tests.getClass().getDeclaredMethods()) {
            boolean isTest = method.getParameterCount() == 0 && method.getReturnType() == void.class
                    && !Modifier.isStatic(method.getModifiers());
            if (isTest) {
                int before = asked;
                test = method.getName() + ": ";
                runOne(tests, method);
                due("asks something", asked > before, true);
                test = "";
            }
        }
    }

    private void runOne(Object tests, Method method) throws IllegalAccessException {
        method.setAccessible(true);
        try {
            method.invoke(tests);
        } catch (InvocationTargetException thrown) {
            wrong++;
            System.out.println(test + "threw " + thrown.getCause());
        }
    }

    void finish() {
        System.out.println(name + ": " + asked + " answers, " + wrong + " not as due");
        if (wrong != 0 || asked == 0) {
            System.exit(1);
        }
    }

    /** A text told to a new bench: the fault it has, and its place; nothing comes of one with a fault. */
    void faulty(int sort, String text, int fault, int place) {
        FringeBench x = new FringeBench();
        due("'" + text + "'", tell(x, sort, text), fault == 0 ? 0 : FringeBench.NONE);
        due("'" + text + "' fault", x.fault(0), fault);
        due("'" + text + "' place", x.fault(1), place);
        due("'" + text + "' count", x.count(sort), fault == 0 ? 1 : 0);
        due("'" + text + "' tape", x.end(1), FringeBench.NONE);
    }

    /** A text that has no fault. */
    void good(int sort, String text) {
        faulty(sort, text, 0, FringeBench.NONE);
    }

    static String repeated(String part, int times) {
        StringBuilder all = new StringBuilder();
        for (int i = 0; i < times; i++) {
            all.append(part);
        }
        return all.toString();
    }

    /** Puts signs (each one byte) behind the tape, without blanks that are too many. */
    static void put(FringeBench bench, String signs) {
        byte[] bytes = signs.getBytes(StandardCharsets.ISO_8859_1);
        int have = 0;
        for (int at = 0; at < bytes.length; at += 20) {
            int[] numbers = new int[5];
            for (int i = 0; i < 20; i++) {
                int sign = at + i < bytes.length ? bytes[at + i] & 255 : ' ';
                numbers[i / 4] = numbers[i / 4] << 8 | sign;
            }
            int now = bench.feed(numbers[0], numbers[1], numbers[2], numbers[3], numbers[4]);
            if (at == 0) {
                have = now - 20;
            }
        }
        if (bytes.length > 0) {
            bench.end(have + bytes.length);
        }
    }

    /** A text of a sort as a further one. */
    static int tell(FringeBench bench, int sort, String text) {
        put(bench, text);
        return bench.text(sort, FringeBench.NONE);
    }

    /** A text of a sort in the place of one. */
    static int retell(FringeBench bench, int sort, int at, String text) {
        put(bench, text);
        return bench.text(sort, at);
    }

    static FringeBench withPictures(String... texts) {
        FringeBench bench = new FringeBench();
        for (String text : texts) {
            tell(bench, 0, text);
        }
        return bench;
    }
}
