import com.sun.management.ThreadMXBean;
import java.io.IOException;
import java.lang.management.ManagementFactory;
import java.lang.reflect.Field;
import java.lang.reflect.Method;
import java.lang.reflect.Modifier;
import java.nio.file.Files;
import java.nio.file.Path;
import java.util.ArrayList;
import java.util.Arrays;
import java.util.HashSet;
import java.util.List;
import java.util.Set;
import java.util.TreeSet;
import java.util.regex.Matcher;
import java.util.regex.Pattern;

/** The face of the program, those rules of LANGUAGE.md that the source shows, and its room. */
public final class LanguageTests {
    private static final String[] FACE = {
        "int feed(int, int, int, int, int)", "int end(int)", "int text(int, int)", "int fault(int)",
        "int picture(int, int)", "int pixel(int, int, int)", "int height(int, int, int)",
        "int differ(int, int, int, boolean)", "int four(int, int, int)", "int part(int, int, int)",
        "long plane(int, int, int)", "int out(int, int, boolean)", "int heavy(int, int, int)",
        "int stitch(int, int, int, int, int)", "int best(int, int, boolean)",
        "int flat(int, int, int, int, int, int)", "int drawn(int, int, int, int)", "int test(int, int, int)",
        "int fails(int, int, boolean)", "int round(int, int, int, int, int)", "int paired(int)",
        "int above(int, int)", "int fringes(int, int)", "int tough(int, int)", "int dim(int, int, int)",
        "int solid(int, int)", "int count(int)", "boolean image(int)", "boolean again(int)"};
    /** What the rules leave out, as words or signs of the source. */
    private static final String[] FORBIDDEN = {
        "\\bthrow\\b", "\\btry\\b", "\\bcatch\\b", "\\bsynchronized\\b", "\\bassert\\b", "->", "::",
        "Exact\\b", "\\bpackage\\b", "\\bprotected\\b", "\\bSystem\\.(?!arraycopy)", "\\bThread\\b", "\\bRandom\\b",
        "\\bhashCode\\b", "\\btoString\\b", "while \\(true\\)", "for \\(;;\\)", "\" \\+|\\+ \"", "\\bvar\\b",
        "\\bString\\.format\\b", "\\bMath\\.(sqrt|random|floor|pow)\\("};

    private final Kit kit = new Kit("LanguageTests");

    public static void main(String[] args) throws IOException {
        LanguageTests tests = new LanguageTests();
        tests.face();
        tests.inside();
        tests.source();
        tests.room();
        tests.kit.finish();
    }

    private void face() {
        Set<String> due = new TreeSet<>(Arrays.asList(FACE));
        Set<String> got = new TreeSet<>();
        Set<String> publicNames = new HashSet<>();
        List<String> privateNames = new ArrayList<>();
        for (Method method : FringeBench.class.getDeclaredMethods()) {
            if (Modifier.isPublic(method.getModifiers())) {
                publicNames.add(method.getName());
                got.add(method.getReturnType() + " " + method.getName() + Arrays.toString(method.getParameterTypes())
                        .replace('[', '(').replace(']', ')'));
            } else {
                privateNames.add(method.getName());
                kit.due(method + " is private", Modifier.isPrivate(method.getModifiers()), true);
            }
        }
        kit.due("the face is " + got + ", due is " + due, got.equals(due), true);
        for (Class<?> inside : FringeBench.class.getDeclaredClasses()) {
            for (Method method : inside.getDeclaredMethods()) {
                privateNames.add(method.getName());
            }
        }
        for (String name : privateNames) {
            kit.due(name + " is a public method's name", publicNames.contains(name), false);
        }
        kit.due("constructors", FringeBench.class.getDeclaredConstructors().length, 1);
        kit.due("final", Modifier.isFinal(FringeBench.class.getModifiers()), true);
        for (Field field : FringeBench.class.getDeclaredFields()) {
            boolean isPrivate = Modifier.isPrivate(field.getModifiers());
            kit.due(field + " is private", isPrivate, !field.getName().equals("NONE"));
        }
    }

    private void inside() {
        Class<?>[] classes = FringeBench.class.getDeclaredClasses();
        kit.due("classes", classes.length + 1 <= 12, true);
        fields(FringeBench.class);
        for (Class<?> inside : classes) {
            kit.due(inside + " is static", Modifier.isStatic(inside.getModifiers()), true);
            kit.due(inside + " has none inside", inside.getDeclaredClasses().length, 0);
            fields(inside);
        }
    }

    private void fields(Class<?> which) {
        int fields = 0;
        for (Field field : which.getDeclaredFields()) {
            boolean isStatic = Modifier.isStatic(field.getModifiers());
            fields += isStatic ? 0 : 1;
            kit.due(field + " is final if static", !isStatic || Modifier.isFinal(field.getModifiers()), true);
        }
        kit.due(which + " fields", fields <= 20, true);
        for (Method method : which.getDeclaredMethods()) {
            kit.due(method + " parameters", method.getParameterCount() <= 7, true);
        }
    }

    private void source() throws IOException {
        String source = Files.readString(Path.of("src/main/java/FringeBench.java"));
        String code = source.replaceAll("(?s)/\\*.*?\\*/", "").replaceAll("//[^\n]*", "");
        for (String forbidden : FORBIDDEN) {
            kit.due("forbidden: " + forbidden, Pattern.compile(forbidden).matcher(code).find(), false);
        }
        Matcher imports = Pattern.compile("import ([^;]*);").matcher(code);
        while (imports.find()) {
            kit.due("import " + imports.group(1), imports.group(1).equals("java.util.Arrays"), true);
        }
        for (int i = 0; i < source.length(); i++) {
            if (source.charAt(i) > 126) {
                kit.due("sign " + i, source.charAt(i), 0);
            }
        }
        methodLengths(source);
    }

    /** A method opens at 4 or 8 blanks with an opening brace and ends with a brace as far in. */
    private void methodLengths(String source) {
        String[] lines = source.split("\n");
        int start = -1;
        String end = "";
        for (int i = 0; i < lines.length; i++) {
            Matcher opens = Pattern.compile("^( {4}| {8})[a-zA-Z].*\\) \\{$").matcher(lines[i]);
            if (start < 0 && opens.find() && !lines[i].contains("class ")) {
                start = i;
                end = opens.group(1) + "}";
            } else if (start >= 0 && lines[i].equals(end)) {
                kit.due(lines[start] + " lines", i - start + 1 <= 60, true);
                start = -1;
            }
        }
    }

    /** 512 of the dearest calls make nothing at all; a new bench is small. */
    private void room() {
        FringeBench bench = Kit.withPictures("size 5 5;phase 0 0 250 90 340 180 10 260 100 350 190 20 270 110 360 200 30 280 120 370 210 40 290 130 380 220;");
        ThreadMXBean threads = (ThreadMXBean) ManagementFactory.getThreadMXBean();
        long thread = Thread.currentThread().getId();
        dearest(bench, 0);
        long before = threads.getThreadAllocatedBytes(thread);
        for (int call = 0; call < 128; call++) {
            dearest(bench, call);
        }
        long after = threads.getThreadAllocatedBytes(thread);
        kit.due("bytes made by calls: " + (after - before), after - before < 20000, true);
        before = threads.getThreadAllocatedBytes(thread);
        FringeBench other = new FringeBench();
        after = threads.getThreadAllocatedBytes(thread);
        kit.due("bytes of a bench: " + (after - before), after - before < 60000, true);
        kit.due("its pictures", other.count(0), 0);
    }

    private static void dearest(FringeBench bench, int seed) {
        bench.picture(0, 10);
        bench.tough(0, 12);
        bench.paired(0);
        bench.drawn(0, seed, 20, 0);
        bench.image(1);
        bench.again(1);
        bench.plane(0, 0, 4);
        bench.best(0, 0, true);
    }
}
