import java.io.IOException;
import java.lang.reflect.Constructor;
import java.lang.reflect.Field;
import java.lang.reflect.InvocationTargetException;
import java.lang.reflect.Method;
import java.lang.reflect.Modifier;
import java.nio.file.Files;
import java.nio.file.Path;
import java.util.ArrayList;
import java.util.Arrays;
import java.util.List;
import java.util.NoSuchElementException;
import java.util.Random;
import java.util.Set;
import java.util.TreeSet;
import java.util.regex.Matcher;
import java.util.regex.Pattern;

/** The public face is the document's, the source keeps to the language, and nothing is thrown but by row. */
public final class FaceTest {
    private static final Path DOCUMENT = Path.of("../shared/DOC.md");
    private static final Path SOURCE = Path.of("src/main/java/SortingNets.java");
    private static final String[] FACE = {
        "int sign(int)", "boolean end(int)", "int net(int)", "int makes(int,int,int)", "int draws(int,int,int,int)",
        "int adds(int,int,int)", "int drops(int,int)", "int swaps(int,int)", "int copies(int,int)", "int joins(int,int)",
        "int flips(int)", "int mirrors(int)", "int lays(int)", "int cuts(int,int,boolean,int)", "int comparer(int,int)",
        "int depth(int)", "int runs(int,int)", "int tells(int)", "int sorts(int)", "int image(int)", "int comes(int,int)",
        "int ranks(int,int)", "int leaves(int,int)", "int orders(int)", "int merges(int,int)", "long idle(int)",
        "long spare(int)", "int thins(int)", "int broken(int,int,int)", "int tests(int)", "int helps(int)",
        "int same(int,int)", "int within(int,int)", "int least(int)", "int shallow(int)", "int rest(int)",
        "int has(int,int)", "int count(int)", "long row(int)"
    };
    private static final int[] ODD = {
        Integer.MIN_VALUE, Integer.MIN_VALUE + 1, -256, -2, -1, 0, 1, 2, 3, 4, 5, 6, 7, 8, 9, 59, 60, 61, 200, 255, 256,
        Integer.MAX_VALUE - 1, Integer.MAX_VALUE
    };

    public static void main(String[] args) throws Exception {
        face();
        thrownAndNone();
        documentsFace();
        documentsSections();
        source();
        for (int run = 0; run < 300; run++) {
            oddCalls(run);
        }
        Check.finish("FaceTest");
    }

    private static void face() {
        Check.due("final", Modifier.isFinal(SortingNets.class.getModifiers()), true);
        Set<String> found = new TreeSet<>();
        Set<String> names = new TreeSet<>();
        for (Method method : SortingNets.class.getDeclaredMethods()) {
            if (!Modifier.isPrivate(method.getModifiers())) {
                found.add(told(method));
                names.add(method.getName());
                Check.due(method + " is public", Modifier.isPublic(method.getModifiers()), true);
            }
        }
        Check.due("methods: " + found, found.equals(new TreeSet<>(Arrays.asList(FACE))), true);
        for (Method method : SortingNets.class.getDeclaredMethods()) {
            boolean hidden = Modifier.isPrivate(method.getModifiers()) && names.contains(method.getName());
            Check.due(method + " bears the name of a public one", hidden, false);
        }
        for (Field field : SortingNets.class.getDeclaredFields()) {
            Check.due(field + " is hidden", Modifier.isPrivate(field.getModifiers()), !field.getName().equals("NONE"));
            if (Modifier.isStatic(field.getModifiers())) {
                Check.due(field + " is final", Modifier.isFinal(field.getModifiers()), true);
            }
        }
        Constructor<?>[] constructors = SortingNets.class.getDeclaredConstructors();
        Check.due("constructors", constructors.length, 1);
        Check.due("constructor", constructors[0].toString().equals("public SortingNets()"), true);
        Check.due("classes", SortingNets.class.getDeclaredClasses().length <= 12, true);
    }

    private static void thrownAndNone() throws ReflectiveOperationException {
        Check.due("NONE", SortingNets.NONE, -1);
        Check.due("NONE's type", SortingNets.class.getField("NONE").getType() == int.class, true);
        for (Method method : SortingNets.class.getMethods()) {
            if (method.getDeclaringClass() == SortingNets.class) {
                List<Class<?>> thrown = List.of(method.getExceptionTypes());
                boolean row = method.getName().equals("row");
                List<Class<?>> due = row ? List.of(NoSuchElementException.class) : List.of();
                Check.due(method + " throws what the face says", thrown.equals(due), true);
            }
        }
    }

    /** What is public stands in the source as the document writes it, in the same order, and nothing else is. */
    private static void documentsFace() throws IOException {
        List<String> due = new ArrayList<>();
        List<String> found = new ArrayList<>();
        for (String line : Files.readString(DOCUMENT).split("\n")) {
            if (line.startsWith("    public ")) {
                due.add(line.replaceAll(";$", "").trim());
            }
        }
        for (String line : Files.readString(SOURCE).split("\n")) {
            if (line.startsWith("    public ")) {
                found.add(line.replaceAll("( \\{|;)$", "").trim());
            }
        }
        Check.due("the document's face", due.size(), FACE.length + 2);
        Check.due("the face " + found + ", due is " + due, found.equals(due), true);
    }

    /** Ahead of these calls the interface says: behind each such line those calls come, up to the next one. */
    private static void documentsSections() throws IOException {
        Matcher sentence = Pattern.compile("Ahead of the calls (.*) the interface says: (---- .*)\\.")
            .matcher(Files.readString(DOCUMENT));
        String[] parts = Files.readString(SOURCE).split("\n    // (?=---- )");
        int sections = 0;
        while (sentence.find()) {
            sections++;
            String part = sections < parts.length ? parts[sections] : "";
            Check.due("section " + sections + ": " + sentence.group(2), part.startsWith(sentence.group(2) + "\n"), true);
            Matcher call = Pattern.compile("\n    public \\w+ (\\w+)\\(").matcher(part);
            List<String> calls = new ArrayList<>();
            while (call.find()) {
                calls.add("`" + call.group(1) + "`");
            }
            Check.due("calls " + calls, String.join(", ", calls).equals(sentence.group(1)), true);
        }
        Check.due("sections", sections, 5);
    }

    private static String told(Method method) {
        List<String> types = new ArrayList<>();
        for (Class<?> type : method.getParameterTypes()) {
            types.add(type.getName());
        }
        return method.getReturnType().getName() + " " + method.getName() + "(" + String.join(",", types) + ")";
    }

    private static void source() throws IOException {
        String all = Files.readString(SOURCE);
        Check.due("signs 1 to 127", all.chars().allMatch(sign -> sign > 0 && sign < 128), true);
        String code = all.replaceAll("(?s)/\\*.*?\\*/", "").replaceAll("//.*", "");
        String[] barred = {
            "->", "::", "\\bsynchronized\\b", "\\bassert\\b", "\\bfinally\\b", "\\btry\\b", "\\bcatch\\b", "Exact\\(",
            "\\bequals\\b", "\\bhashCode\\b", "\\btoString\\b", "\\bpackage\\b", "\\bprotected\\b", "static \\{",
            "\\bSystem\\b", "\\bMAX_VALUE\\b", "\\bdouble\\b", "\\bfloat\\b"
        };
        for (String one : barred) {
            Check.due("the source has " + one, Pattern.compile(one).matcher(code).find(), false);
        }
        for (String line : code.split("\n")) {
            if (line.startsWith("import ")) {
                Check.due(line, line.equals("import java.util.NoSuchElementException;"), true);
            }
        }
    }

    /** Odd numbers in any state: only row may throw, and only its own exception. */
    private static void oddCalls(int run) throws ReflectiveOperationException {
        Random random = new Random(run);
        List<Method> methods = new ArrayList<>();
        for (Method method : SortingNets.class.getDeclaredMethods()) {
            if (Modifier.isPublic(method.getModifiers())) {
                methods.add(method);
            }
        }
        methods.sort((a, b) -> told(a).compareTo(told(b)));
        SortingNets x = new SortingNets();
        for (int call = 0; call < 512; call++) {
            Method method = methods.get(random.nextInt(methods.size()));
            Object[] values = new Object[method.getParameterCount()];
            for (int k = 0; k < values.length; k++) {
                if (method.getParameterTypes()[k] == boolean.class) {
                    values[k] = random.nextBoolean();
                } else {
                    values[k] = random.nextInt(3) == 0 ? ODD[random.nextInt(ODD.length)] : random.nextInt(8);
                }
            }
            try {
                method.invoke(x, values);
            } catch (InvocationTargetException e) {
                boolean due = method.getName().equals("row") && e.getCause().getClass() == NoSuchElementException.class;
                Check.due(told(method) + " of " + Arrays.toString(values) + " throws " + e.getCause(), due, true);
            }
        }
    }
}
