import java.io.IOException;
import java.lang.reflect.Field;
import java.lang.reflect.Method;
import java.lang.reflect.Modifier;
import java.nio.charset.StandardCharsets;
import java.nio.file.Files;
import java.nio.file.Path;
import java.util.Arrays;
import java.util.Set;
import java.util.TreeSet;
import java.util.regex.Matcher;
import java.util.regex.Pattern;

/** The face as the document lists it, and those rules of the language that can be seen from outside the methods. */
public final class FaceTest {
    private static final Checks CHECK = new Checks("FaceTest");
    private static final String ARGUMENT = "IllegalArgumentException";
    private static final String INDEX = "IndexOutOfBoundsException";
    private static final String STATE = "IllegalStateException";
    private static final String[] FACE = {
        "int wave(int) " + ARGUMENT,
        "int sample(int,int) " + INDEX + "," + ARGUMENT,
        "int add(int,int,int) " + ARGUMENT,
        "int take() " + STATE,
        "int set(int,int) " + INDEX + "," + ARGUMENT,
        "int code() ",
        "int lose(int) " + INDEX,
        "int spoil(int,int) " + INDEX + "," + ARGUMENT,
        "int append(int) " + ARGUMENT + "," + STATE,
        "int clearBuffer() ",
        "int firstError() ",
        "int load(int) " + INDEX + "," + ARGUMENT,
        "int write(int) " + INDEX,
        "int keep(int) " + ARGUMENT,
        "int goBack(int) " + ARGUMENT + "," + STATE,
        "int undo() " + STATE,
        "int step(int) " + INDEX,
        "int sampleOf(int,int) " + INDEX + "," + ARGUMENT,
        "int blockOf(int,int) " + INDEX + "," + ARGUMENT,
        "int count(int) " + ARGUMENT,
        "int setting(int) " + INDEX,
        "int ifCoded(int,int,int,int) " + ARGUMENT,
        "int ifBlock(int,int,int) " + INDEX + "," + ARGUMENT,
        "int bestStep(int,int) " + INDEX,
        "int ifSpoiled(int,int) " + INDEX + "," + ARGUMENT,
        "double meanSquare() ",
        "float loudness() ",
        "long digest() "};

    public static void main(String[] args) throws IOException {
        face();
        members();
        source();
        CHECK.end();
    }

    private static void face() {
        Set<String> got = new TreeSet<>();
        for (Method method : SteppedSamples.class.getDeclaredMethods()) {
            if (Modifier.isPublic(method.getModifiers())) {
                got.add(method.getReturnType() + " " + method.getName() + names(method.getParameterTypes(), "(", ")")
                    + " " + names(method.getExceptionTypes(), "", ""));
            }
        }
        CHECK.dueText("the face", got.toString(), new TreeSet<>(Arrays.asList(FACE)).toString());
        int modifiers = SteppedSamples.class.getModifiers();
        CHECK.due("public final", modifiers & (Modifier.PUBLIC | Modifier.FINAL), Modifier.PUBLIC | Modifier.FINAL);
        CHECK.due("constructors", SteppedSamples.class.getDeclaredConstructors().length, 1);
        CHECK.due("public constructors", SteppedSamples.class.getConstructors().length, 1);
    }

    private static String names(Class<?>[] types, String before, String behind) {
        StringBuilder text = new StringBuilder(before);
        for (Class<?> type : types) {
            text.append(text.length() > before.length() ? "," : "").append(type.getSimpleName());
        }
        return text.append(behind).toString();
    }

    private static void members() {
        Set<String> faceNames = new TreeSet<>();
        for (String call : FACE) {
            faceNames.add(call.substring(call.indexOf(' ') + 1, call.indexOf('(')));
        }
        for (Method method : SteppedSamples.class.getDeclaredMethods()) {
            boolean shown = Modifier.isPublic(method.getModifiers());
            boolean hidden = Modifier.isPrivate(method.getModifiers()) && !faceNames.contains(method.getName());
            CHECK.due("method " + method.getName(), shown || hidden ? 1 : 0, 1);
        }
        fields(SteppedSamples.class);
        Class<?>[] inside = SteppedSamples.class.getDeclaredClasses();
        CHECK.due("classes are at most twelve", inside.length < 12 ? 1 : 0, 1);
        for (Class<?> one : inside) {
            int modifiers = one.getModifiers();
            boolean right = Modifier.isStatic(modifiers) && !Modifier.isPublic(modifiers)
                && !Modifier.isProtected(modifiers);
            CHECK.due("class " + one.getSimpleName(), right ? 1 : 0, 1);
            fields(one);
        }
    }

    private static void fields(Class<?> one) {
        for (Field field : one.getDeclaredFields()) {
            int modifiers = field.getModifiers();
            boolean still = !Modifier.isStatic(modifiers) || Modifier.isFinal(modifiers);
            CHECK.due("field " + field.getName() + " is no static state", still ? 1 : 0, 1);
            boolean hidden = Modifier.isPrivate(modifiers) || field.getName().equals("NONE");
            CHECK.due("field " + field.getName() + " is hidden", hidden || one != SteppedSamples.class ? 1 : 0, 1);
        }
    }

    private static void source() throws IOException {
        Path path = Path.of("src/main/java/SteppedSamples.java");
        String text = Files.readString(path, StandardCharsets.US_ASCII);
        String bare = text.replaceAll("(?s)/\\*.*?\\*/", "").replaceAll("//[^\n]*", "").replaceAll("\"[^\"\n]*\"", "\"\"");
        String[] banned = {"\\bimport\\b", "\\bpackage\\b", "\\bcatch\\b", "\\bfinally\\b", "\\bsynchronized\\b",
            "\\bassert\\b", "->", "::", "\\bDouble\\b", "\\bFloat\\b", "\\bThrowable\\b", "\\bvar\\b", "\\binstanceof\\b",
            "Exact\\b", "\\bprotected\\b", "\\bRandom\\b", "nanoTime", "currentTimeMillis", "\"\" \\+", "\\+ \"\""};
        for (String one : banned) {
            Matcher matcher = Pattern.compile(one).matcher(bare);
            CHECK.due("the source holds " + one, matcher.find() ? 1 : 0, 0);
        }
        madeObjects(bare);
    }

    /** Objects and arrays are made with the class alone, never by a call, but for exceptions: a run has one room. */
    private static void madeObjects(String bare) {
        for (String line : bare.split("\n")) {
            boolean makes = line.contains("new ") && !line.contains("throw new ");
            boolean inField = line.contains("final ") || line.matches("\\s*(new State\\(\\)(, )?)+");
            CHECK.due("made by a call: " + line, makes && !inField ? 1 : 0, 0);
        }
    }
}
