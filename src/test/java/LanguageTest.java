import java.io.IOException;
import java.lang.reflect.Constructor;
import java.lang.reflect.Field;
import java.lang.reflect.Method;
import java.lang.reflect.Modifier;
import java.nio.file.Files;
import java.nio.file.Path;
import java.util.ArrayList;
import java.util.List;
import java.util.Set;
import java.util.TreeSet;
import java.util.regex.Matcher;
import java.util.regex.Pattern;

/** The document's face, and those rules of LANGUAGE.md that a look at the class can tell. */
public final class LanguageTest {
    private static final Path SOURCE = Path.of("src/main/java/TurnBoards.java");
    private static final String[] FACE = {
        "int group(int,int)", "int read(int,int,int,int)", "int times(int,int)",
        "int turn(int,int)", "int about(int)", "int worth(int,int)", "int point()",
        "int line(int,int)", "int walk(int)", "int step(int,int,boolean)",
        "int counts(int,boolean)", "int told(int,int)", "int drop()", "int set(int,int)",
        "int at(int)", "long weight()", "int twist(int,int)", "int still()", "int undo()",
        "int tree(int)", "long sum()", "long sumBy(int,int)", "long mean(int,int,int)",
        "long flat()", "int sheet(int,int,int)", "int lay(int,int,int)", "int fill(int,int,int)",
        "int many(int)"};
    private static final Due due = new Due();

    public static void main(String[] args) throws IOException {
        face();
        constants();
        classesInside();
        words(withoutComments(Files.readString(SOURCE)));
        due.end();
    }

    private static String told(Method method) {
        List<String> types = new ArrayList<>();
        for (Class<?> type : method.getParameterTypes()) {
            types.add(type.getName());
        }
        return method.getReturnType().getName() + " " + method.getName() + "("
            + String.join(",", types) + ")";
    }

    private static void face() {
        due.part("face");
        due.holds("public and final", TurnBoards.class.getModifiers()
            == (Modifier.PUBLIC | Modifier.FINAL));
        Set<String> found = new TreeSet<>();
        Set<String> names = new TreeSet<>();
        for (Method method : TurnBoards.class.getDeclaredMethods()) {
            if (!Modifier.isPrivate(method.getModifiers())) {
                due.holds(method + " is public, no more", method.getModifiers() == Modifier.PUBLIC);
                found.add(told(method));
                names.add(method.getName());
            }
        }
        due.holds("methods " + found, found.equals(new TreeSet<>(List.of(FACE))));
        for (Method method : TurnBoards.class.getDeclaredMethods()) {
            due.holds(method + " has a name of its own", !Modifier.isPrivate(method.getModifiers())
                || !names.contains(method.getName()));
        }
        Constructor<?>[] constructors = TurnBoards.class.getDeclaredConstructors();
        due.is("constructors", constructors.length, 1);
        due.is("its parameters", constructors[0].getParameterCount(), 0);
        due.is("it is public", constructors[0].getModifiers(), Modifier.PUBLIC);
    }

    private static void constants() {
        due.part("constants");
        due.is("BAD", TurnBoards.BAD, -1);
        due.is("STATE", TurnBoards.STATE, -2);
        due.is("FULL", TurnBoards.FULL, -3);
        due.is("NONE", TurnBoards.NONE, -4);
        due.is("SPENT", TurnBoards.SPENT, -6);
        int open = 0;
        for (Field field : TurnBoards.class.getDeclaredFields()) {
            int is = field.getModifiers();
            open += Modifier.isPrivate(is) ? 0 : 1;
            due.holds(field + ": static is final", !Modifier.isStatic(is) || Modifier.isFinal(is));
        }
        due.is("fields that are not private", open, 5);
    }

    private static void classesInside() {
        due.part("classes inside");
        Class<?>[] inside = TurnBoards.class.getDeclaredClasses();
        due.holds("at most twelve classes", inside.length <= 11);
        for (Class<?> each : inside) {
            due.holds(each + " is static", Modifier.isStatic(each.getModifiers()));
            due.holds(each + " is not open", !Modifier.isPublic(each.getModifiers())
                && !Modifier.isProtected(each.getModifiers()));
            due.holds(each + " has few fields", each.getDeclaredFields().length <= 20);
            for (Method method : each.getDeclaredMethods()) {
                due.holds(method + " has few parameters", method.getParameterCount() <= 7);
            }
        }
    }

    private static String withoutComments(String source) {
        return Pattern.compile("/\\*.*?\\*/|//[^\n]*", Pattern.DOTALL).matcher(source)
            .replaceAll("");
    }

    private static void words(String code) {
        due.part("words");
        Matcher matcher = Pattern.compile("\\b(throw|throws|try|catch|finally|synchronized|assert|"
            + "import|package|instanceof|Object|Exception|System\\.(?!arraycopy)\\w+|\\w+Exact|"
            + "hashCode|toString|Random|Thread)\\b|->|::").matcher(code);
        while (matcher.find()) {
            due.holds("no " + matcher.group(), false);
        }
        // all calls of a run share one room: rows are made with the object and used again
        Pattern atFirst = Pattern.compile("\\s+(private )?final [\\w\\[\\]]+ \\w+ = new .*;"
            + "|\\s+the(Walks|Sheets)\\[\\w\\] = new (Walk|Sheet)\\(\\);");
        for (String line : code.split("\n")) {
            due.holds("made at first: " + line,
                !line.contains("new ") || atFirst.matcher(line).matches());
        }
    }
}
