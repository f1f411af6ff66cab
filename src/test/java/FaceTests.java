import java.io.IOException;
import java.lang.reflect.Constructor;
import java.lang.reflect.Field;
import java.lang.reflect.Method;
import java.lang.reflect.Modifier;
import java.nio.file.Files;
import java.nio.file.Path;
import java.util.Set;
import java.util.TreeSet;

/** The public face, and what of the language's rules can be seen by a search. */
public final class FaceTests {
    private static final Check CHECK = new Check("FaceTests");
    private static final Set<String> METHODS = Set.of("token(int)", "four(int,int,int,int)", "untoken()", "clear()",
        "tokens()", "wrongAt()", "fault()", "set(int,int)", "cell(int,int)", "run()", "outs()", "output(int)",
        "global(int)", "cellAfter(int)", "turns()", "deepest()", "plainSize()", "plain(int)", "prepare(int,int)");
    private static final String[] CONSTANTS = {"BAD_ARG -1", "FULL -2", "NONE -4", "HALTED 0", "TIRED 1",
        "TOO_DEEP 2", "FULL_UP 3", "DIVIDED 4", "WRONG -5"};
    private static final String[] FORBIDDEN = {"import ", "->", "::", "try {", "catch", "throw ", "finally",
        "synchronized", "assert ", "System.", "package ", "protected "};

    public static void main(String[] args) throws IOException, ReflectiveOperationException {
        methods();
        constants();
        others();
        source();
        CHECK.finish();
    }

    private static void methods() {
        Set<String> found = new TreeSet<>();
        Set<String> names = new TreeSet<>();
        for (Method method : LittleCompiler.class.getDeclaredMethods()) {
            if (Modifier.isPublic(method.getModifiers())) {
                String whole = method.toString();
                found.add(whole.substring(whole.indexOf("LittleCompiler.") + "LittleCompiler.".length()));
                names.add(method.getName());
                String answer = method.getName().equals("clear") ? "void" : "int";
                CHECK.holds(whole + " answers " + answer, method.getReturnType().getName().equals(answer));
                CHECK.holds(whole + " is no static", !Modifier.isStatic(method.getModifiers()));
            } else {
                CHECK.holds(method + " is private", Modifier.isPrivate(method.getModifiers()));
            }
        }
        CHECK.holds("public methods: " + found, found.equals(new TreeSet<>(METHODS)));
        noPrivateMethodIsNamedSo(LittleCompiler.class, names);
        for (Class<?> inside : LittleCompiler.class.getDeclaredClasses()) {
            noPrivateMethodIsNamedSo(inside, names);
        }
    }

    private static void noPrivateMethodIsNamedSo(Class<?> type, Set<String> names) {
        for (Method method : type.getDeclaredMethods()) {
            if (!Modifier.isPublic(method.getModifiers())) {
                CHECK.holds(method + " has a name of its own", !names.contains(method.getName()));
            }
        }
    }

    private static void constants() throws ReflectiveOperationException {
        for (String constant : CONSTANTS) {
            String[] parts = constant.split(" ");
            Field field = LittleCompiler.class.getDeclaredField(parts[0]);
            int wanted = Modifier.PUBLIC | Modifier.STATIC | Modifier.FINAL;
            CHECK.due(constant + " modifiers", field.getModifiers(), wanted);
            CHECK.due(constant, field.getInt(null), Integer.parseInt(parts[1]));
        }
        int open = 0;
        for (Field field : LittleCompiler.class.getDeclaredFields()) {
            open += Modifier.isPrivate(field.getModifiers()) ? 0 : 1;
        }
        CHECK.due("fields that are not private", open, CONSTANTS.length);
    }

    private static void others() {
        CHECK.due("class", LittleCompiler.class.getModifiers(), Modifier.PUBLIC | Modifier.FINAL);
        Constructor<?>[] constructors = LittleCompiler.class.getDeclaredConstructors();
        CHECK.due("constructors", constructors.length, 1);
        CHECK.due("constructor", constructors[0].getModifiers(), Modifier.PUBLIC);
        CHECK.due("its parameters", constructors[0].getParameterCount(), 0);
        Class<?>[] inside = LittleCompiler.class.getDeclaredClasses();
        CHECK.holds("at most twelve classes", inside.length + 1 <= 12);
        for (Class<?> type : inside) {
            int modifiers = type.getModifiers();
            CHECK.holds(type + " is static", Modifier.isStatic(modifiers));
            CHECK.holds(type + " is not open", !Modifier.isPublic(modifiers) && !Modifier.isProtected(modifiers));
            for (Field field : type.getDeclaredFields()) {
                int how = field.getModifiers();
                CHECK.holds(field + " is no static state", !Modifier.isStatic(how) || Modifier.isFinal(how));
            }
        }
    }

    /** Comments are left out of the search. */
    private static void source() throws IOException {
        int number = 0;
        for (String line : Files.readAllLines(Path.of("src/main/java/LittleCompiler.java"))) {
            number++;
            String code = line.replaceAll("//.*", "").replaceAll("^\\s*/?\\*.*", "");
            for (String word : FORBIDDEN) {
                CHECK.holds("line " + number + " has no " + word, !code.contains(word));
            }
        }
        CHECK.holds("there is a source", number > 0);
    }
}
