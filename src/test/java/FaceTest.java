import java.io.IOException;
import java.lang.reflect.Constructor;
import java.lang.reflect.Field;
import java.lang.reflect.Method;
import java.lang.reflect.Modifier;
import java.nio.file.Files;
import java.nio.file.Path;
import java.util.Arrays;
import java.util.List;
import java.util.Set;
import java.util.TreeSet;
import java.util.regex.Pattern;

/** The face of the document and the rules of LANGUAGE.md that a look at the class or its text can tell. */
public final class FaceTest {
    private static final String[] FACE = {
        "type 1", "clear 0", "block 0", "sends 3", "marks 2", "adds 5", "cuts 0", "stages 5", "drops 1", "learns 2",
        "orders 0", "hears 0", "undo 0", "at 3", "deed 2", "stage 2", "wrong 1", "loss 0", "taps 3", "skew 0",
        "spreads 1", "order 1", "lag 1", "sees 3", "forget 0", "fits 1", "odds 4", "keep 1", "back 1", "count 1"};

    // What no line of the program may hold; the program needs less than LANGUAGE.md allows.
    private static final String[] FORBIDDEN = {
        "->", "::", "\\bsynchronized\\b", "\\bassert\\b", "\\bfinally\\b", "\\bcatch\\b", "\\bthrow\\b", "Exact\\(",
        "System\\.(?!arraycopy)", "Arrays\\.(?!fill|copyOf)", "\\bstatic \\{", "\\bvar\\b", "^package", "\\bdouble\\b",
        "^import (?!java\\.util\\.Arrays;)", "\\bString\\b", "\\bequals\\b|\\bhashCode\\b|\\btoString\\b"};

    // Only what an object has from its beginning is made, so that no call uses up room.
    private static final Pattern MAKING = Pattern.compile(
            "^ {4}( {4})?private (static )?final .* = new .*;$|^ {8}final .* = new .*;$"
            + "|^ {12,16}(images\\[image\\]|past\\[k\\]) = new State\\(\\);$");

    public static void main(String[] args) throws IOException {
        publicMembers();
        constants();
        nestedClasses();
        textOfTheProgram();
        Due.end();
    }

    private static void publicMembers() {
        Class<?> c = TwistedLight.class;
        Due.is("the class is public and final", c.getModifiers(), Modifier.PUBLIC | Modifier.FINAL);
        Constructor<?>[] constructors = c.getDeclaredConstructors();
        Due.is("constructors", constructors.length, 1);
        Due.is("it is public", constructors[0].getModifiers(), Modifier.PUBLIC);
        Due.is("it has no parameters", constructors[0].getParameterCount(), 0);
        Set<String> open = new TreeSet<>();
        Set<String> names = new TreeSet<>();
        for (Method method : c.getDeclaredMethods()) {
            if (!Modifier.isPrivate(method.getModifiers()) && !method.isSynthetic()) {
                open.add(method.getName() + " " + method.getParameterCount());
                names.add(method.getName());
                Due.is(method + " is public alone", method.getModifiers(), Modifier.PUBLIC);
                Due.is(method + " answers an int", method.getReturnType() == int.class ? 1 : 0, 1);
            }
        }
        Due.is("the methods are " + open, open.equals(new TreeSet<>(Arrays.asList(FACE))) ? 1 : 0, 1);
        noPrivateMethodNamedSo(c, names);
    }

    private static void noPrivateMethodNamedSo(Class<?> c, Set<String> names) {
        for (Method method : c.getDeclaredMethods()) {
            boolean isFace = c == TwistedLight.class && Modifier.isPublic(method.getModifiers());
            Due.is(method + " bears the name of a public one", !isFace && names.contains(method.getName()) ? 1 : 0, 0);
            Due.is(method + " has at most seven parameters", Math.max(7, method.getParameterCount()), 7);
        }
        for (Class<?> nested : c.getDeclaredClasses()) {
            noPrivateMethodNamedSo(nested, names);
        }
    }

    private static void constants() {
        List<String> due = List.of("BAD", "FULL", "NONE", "STATE");
        Set<String> open = new TreeSet<>();
        for (Field field : TwistedLight.class.getDeclaredFields()) {
            if (!Modifier.isPrivate(field.getModifiers()) && !field.isSynthetic()) {
                open.add(field.getName());
            }
        }
        Due.is("the constants are " + open, List.copyOf(open).equals(due) ? 1 : 0, 1);
        Due.is("BAD", TwistedLight.BAD, -1);
        Due.is("STATE", TwistedLight.STATE, -2);
        Due.is("FULL", TwistedLight.FULL, -3);
        Due.is("NONE", TwistedLight.NONE, -9);
    }

    private static void nestedClasses() {
        Class<?>[] nested = TwistedLight.class.getDeclaredClasses();
        Due.is("at most twelve classes", Math.max(12, nested.length + 1), 12);
        for (Class<?> c : nested) {
            Due.is(c + " is private, static and final", c.getModifiers(),
                    Modifier.PRIVATE | Modifier.STATIC | Modifier.FINAL);
        }
    }

    private static void textOfTheProgram() throws IOException {
        int sinceMethod = 0;
        for (String line : Files.readAllLines(Path.of("src/main/java/TwistedLight.java"))) {
            String code = line.replaceAll("//.*|^ */\\*\\*.*", "");
            for (String forbidden : FORBIDDEN) {
                Due.is("'" + forbidden + "' in: " + line, Pattern.compile(forbidden).matcher(code).find() ? 1 : 0, 0);
            }
            boolean makes = Pattern.compile("\\bnew\\b").matcher(code).find();
            Due.is("made in a call: " + line, makes && !MAKING.matcher(code).matches() ? 1 : 0, 0);
            Due.is("signs in: " + line, line.chars().allMatch(sign -> sign < 128) ? 1 : 0, 1);
            sinceMethod = code.isBlank() ? 0 : sinceMethod + 1;
            Due.is("lines without a gap up to: " + line, Math.max(60, sinceMethod), 60);
        }
    }
}
