import java.lang.reflect.Constructor;
import java.lang.reflect.Field;
import java.lang.reflect.Method;
import java.lang.reflect.Modifier;
import java.util.ArrayList;
import java.util.Arrays;
import java.util.List;
import java.util.Set;
import java.util.TreeSet;

/** The public face of the document, and rules 1 and 11 of LANGUAGE.md as far as they show in classes. */
final class FaceTest {
    private static final Check CHECK = new Check("FaceTest");

    private static final String[] FACE = {
        "int resize(int, int) throws IllegalArgumentException",
        "char setPattern(char) throws IllegalArgumentException",
        "boolean setLight(int, int, boolean) throws IndexOutOfBoundsException",
        "int press(int, int) throws IndexOutOfBoundsException",
        "int rowCount()",
        "int columnCount()",
        "char pattern()",
        "boolean isLit(int, int) throws IndexOutOfBoundsException",
        "boolean isLitByPresses(int, int) throws IndexOutOfBoundsException",
        "int litCount()",
        "int litInRow(int) throws IndexOutOfBoundsException",
        "int litInColumn(int) throws IndexOutOfBoundsException",
        "int pressesOf(int, int) throws IndexOutOfBoundsException",
        "int reachOf(int, int) throws IndexOutOfBoundsException",
        "boolean toggleGoal(int, int) throws IndexOutOfBoundsException",
        "boolean isGoalLit(int, int) throws IndexOutOfBoundsException",
        "boolean isReached()",
        "int differenceCount()",
        "boolean isSolvable()",
        "boolean isSolvableByParity()",
        "int quietNumber()",
        "boolean isQuietCell(int, int) throws IndexOutOfBoundsException",
        "int quietCellCount()",
        "int fewestPresses() throws NoSuchElementException",
        "boolean isInSolution(int, int) throws IndexOutOfBoundsException, NoSuchElementException",
        "int solve() throws NoSuchElementException",
        "int chase() throws UnsupportedOperationException",
        "int addWorm(int, int, char) throws IndexOutOfBoundsException, IllegalArgumentException, IllegalStateException",
        "int removeWorm(int) throws IndexOutOfBoundsException",
        "int step()",
        "int wormCount()",
        "int rowOfWorm(int) throws IndexOutOfBoundsException",
        "int columnOfWorm(int) throws IndexOutOfBoundsException",
        "char directionOf(int) throws IndexOutOfBoundsException",
        "int wormIn(int, int) throws IndexOutOfBoundsException, NoSuchElementException",
        "int stepCount()",
        "int writeRow(int) throws IndexOutOfBoundsException",
        "char lineAt(int) throws IndexOutOfBoundsException",
        "double meanPresses()",
        "float litShare()",
        "boolean isConsistent()",
        "int type(char) throws IllegalArgumentException, IllegalStateException",
        "int execute() throws IllegalArgumentException, IllegalStateException",
        "int errorPosition() throws NoSuchElementException",
        "int failedCommand() throws NoSuchElementException",
        "int undo() throws IllegalStateException",
        "int save()",
        "int restore() throws IllegalStateException"
    };

    private FaceTest() {
    }

    public static void main(String[] arguments) {
        publicMethods();
        otherMembers();
        innerClasses();
        CHECK.end();
    }

    private static void publicMethods() {
        Set<String> due = new TreeSet<>(Arrays.asList(FACE));
        Set<String> got = new TreeSet<>();
        for (Method method : GlowwormGrid.class.getDeclaredMethods()) {
            if (Modifier.isPublic(method.getModifiers())) {
                got.add(signature(method));
                CHECK.no("static " + method.getName(), Modifier.isStatic(method.getModifiers()));
            }
        }
        CHECK.same("public methods", String.join("; ", got), String.join("; ", due));
        CHECK.same("class", Modifier.toString(GlowwormGrid.class.getModifiers()), "public final");
    }

    private static String signature(Method method) {
        List<String> types = new ArrayList<>();
        for (Class<?> type : method.getParameterTypes()) {
            types.add(type.getSimpleName());
        }
        List<String> thrown = new ArrayList<>();
        for (Class<?> type : method.getExceptionTypes()) {
            thrown.add(type.getSimpleName());
        }
        return method.getReturnType().getSimpleName() + " " + method.getName() + "(" + String.join(", ", types) + ")"
                + (thrown.isEmpty() ? "" : " throws " + String.join(", ", thrown));
    }

    private static void otherMembers() {
        for (Field field : GlowwormGrid.class.getDeclaredFields()) {
            CHECK.yes("private field " + field.getName(), Modifier.isPrivate(field.getModifiers()));
        }
        for (Method method : GlowwormGrid.class.getDeclaredMethods()) {
            int modifiers = method.getModifiers();
            CHECK.yes("public or private " + method.getName(),
                    Modifier.isPublic(modifiers) || Modifier.isPrivate(modifiers));
        }
        Constructor<?>[] constructors = GlowwormGrid.class.getDeclaredConstructors();
        CHECK.same("constructors", constructors.length, 1);
        CHECK.same("constructor", constructors[0].toString(), "public GlowwormGrid()");
    }

    private static void innerClasses() {
        Set<String> publicNames = new TreeSet<>();
        for (String signature : FACE) {
            publicNames.add(signature.substring(signature.indexOf(' ') + 1, signature.indexOf('(')));
        }
        Class<?>[] inner = GlowwormGrid.class.getDeclaredClasses();
        CHECK.yes("at most twelve classes", inner.length < 12);
        for (Class<?> type : inner) {
            CHECK.yes("private " + type, Modifier.isPrivate(type.getModifiers()));
            CHECK.yes("static " + type, Modifier.isStatic(type.getModifiers()));
            for (Method method : type.getDeclaredMethods()) {
                CHECK.no("a public name in " + method, publicNames.contains(method.getName()));
                CHECK.yes("parameters of " + method, method.getParameterCount() <= 7);
            }
        }
        for (Method method : GlowwormGrid.class.getDeclaredMethods()) {
            CHECK.no("a private " + method.getName(),
                    Modifier.isPrivate(method.getModifiers()) && publicNames.contains(method.getName()));
        }
    }
}
