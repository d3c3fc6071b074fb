import java.io.IOException;
import java.lang.reflect.Constructor;
import java.lang.reflect.Field;
import java.lang.reflect.Method;
import java.lang.reflect.Modifier;
import java.nio.file.Files;
import java.nio.file.Path;
import java.util.Set;
import java.util.TreeSet;
import java.util.regex.Matcher;
import java.util.regex.Pattern;

/** The document's face and the rules 1, 2, 5 and 10 of LANGUAGE.md, as far as they show in the class. */
public final class FaceTest {
    private static final Set<String> FACE = Set.of(
        "offer(int,int,int)", "withdraw(int,int)", "demand(boolean,int,int,int)", "wish(boolean,int,int)",
        "unwish(int)", "solve()", "chosen(int)", "solutions()", "possible(int,int)", "blame()", "lock()",
        "locked(int)", "reuse()", "steps()", "step(int)", "apply(int)", "current()", "version(int,int)",
        "rollback(int)", "collect(int)");
    private static final Set<String> CONSTANTS = Set.of("BAD", "EXISTS", "FULL", "NONE");
    private static final Path DOCUMENT = Path.of("..", "shared", "DOC.md");

    public static void main(String[] args) throws IOException {
        Check check = new Check();
        constants(check);
        theClass(check);
        methods(check);
        fields(check);
        // The lists above stand without the document; where it lies beside them, they are held against it.
        if (Files.exists(DOCUMENT)) {
            compareWith(Files.readString(DOCUMENT), check);
        }
        check.finish();
    }

    private static void constants(Check check) {
        check.due("BAD", PackageDesk.BAD, -1);
        check.due("EXISTS", PackageDesk.EXISTS, -2);
        check.due("FULL", PackageDesk.FULL, -3);
        check.due("NONE", PackageDesk.NONE, -4);
    }

    private static void theClass(Check check) {
        check.holds("public and final", Modifier.isPublic(PackageDesk.class.getModifiers())
            && Modifier.isFinal(PackageDesk.class.getModifiers()));
        check.holds("no nested class", PackageDesk.class.getDeclaredClasses().length == 0);
        Constructor<?>[] constructors = PackageDesk.class.getDeclaredConstructors();
        check.holds("one constructor, public and without arguments", constructors.length == 1
            && Modifier.isPublic(constructors[0].getModifiers()) && constructors[0].getParameterCount() == 0);
    }

    private static String form(Method method) {
        StringBuilder form = new StringBuilder(method.getName()).append('(');
        for (Class<?> type : method.getParameterTypes()) {
            form.append(form.charAt(form.length() - 1) == '(' ? "" : ",").append(type.getName());
        }
        return form.append(')').toString();
    }

    private static void methods(Check check) {
        Set<String> open = new TreeSet<>();
        Set<String> names = new TreeSet<>();
        for (Method method : PackageDesk.class.getDeclaredMethods()) {
            check.holds("one method is named " + method.getName(), names.add(method.getName()));
            check.holds(method.getName() + " has at most seven parameters", method.getParameterCount() <= 7);
            if (!Modifier.isPrivate(method.getModifiers())) {
                open.add(form(method));
                check.holds(method.getName() + " is public, of an object, and answers an int",
                    Modifier.isPublic(method.getModifiers()) && !Modifier.isStatic(method.getModifiers())
                        && method.getReturnType() == int.class);
            }
        }
        check.holds("the methods are those of the document", open.equals(FACE));
    }

    private static boolean isPlain(Class<?> type) {
        return type.isPrimitive() && type != float.class && type != double.class;
    }

    private static void fields(Check check) {
        Set<String> open = new TreeSet<>();
        int ofTheObject = 0;
        for (Field field : PackageDesk.class.getDeclaredFields()) {
            Class<?> type = field.getType();
            boolean isStatic = Modifier.isStatic(field.getModifiers());
            if (!Modifier.isPrivate(field.getModifiers())) {
                open.add(field.getName());
            }
            ofTheObject += isStatic ? 0 : 1;
            check.holds(field.getName() + " is of a plain type", isPlain(type)
                || type.isArray() && isPlain(type.getComponentType()));
            check.holds(field.getName() + ", if static, is a constant int or long", !isStatic
                || Modifier.isFinal(field.getModifiers()) && (type == int.class || type == long.class));
        }
        check.holds("the open fields are the document's constants", open.equals(CONSTANTS));
        check.holds("at most forty fields", ofTheObject <= 40);
    }

    /** What the document declares: the methods of its face, those its promises are about, the constants. */
    private static void compareWith(String document, Check check) {
        Set<String> declared = formsIn(document, "(?m)^ *public int (\\w+)\\((.*)\\);$");
        check.holds("the document's face is as listed: " + declared, declared.equals(FACE));
        Set<String> promised = formsIn(document, "(?m)^`int (\\w+)\\((.*)\\)`: ");
        check.holds("each method has its promise: " + promised, promised.equals(FACE));
        Set<String> constants = new TreeSet<>();
        Matcher each = Pattern.compile("public static final int (\\w+) = (-?\\d+);").matcher(document);
        while (each.find()) {
            constants.add(each.group(1));
            check.due("the document's " + each.group(1), valueOf(each.group(1)), Integer.parseInt(each.group(2)));
        }
        check.holds("the document's constants are as listed", constants.equals(CONSTANTS));
    }

    private static Set<String> formsIn(String document, String declaration) {
        Set<String> forms = new TreeSet<>();
        Matcher each = Pattern.compile(declaration).matcher(document);
        while (each.find()) {
            forms.add(each.group(1) + "(" + each.group(2).replaceAll(" \\w+(, )?", "$1").replace(" ", "") + ")");
        }
        return forms;
    }

    private static int valueOf(String constant) {
        try {
            return PackageDesk.class.getField(constant).getInt(null);
        } catch (ReflectiveOperationException missing) {
            return 0;
        }
    }
}
