import java.io.IOException;
import java.lang.reflect.Field;
import java.lang.reflect.Method;
import java.lang.reflect.Modifier;
import java.nio.charset.StandardCharsets;
import java.nio.file.Files;
import java.nio.file.Path;
import java.util.Arrays;
import java.util.Set;
import java.util.TreeSet;
import java.util.regex.Matcher;
import java.util.regex.Pattern;

/**
 * The face as the document lists it, those rules of the language that can be seen from outside the methods, and that
 * each section of the document is held by a test.
 */
public final class FaceTest {
    private static final Checks CHECK = new Checks("FaceTest");
    private static final String ARGUMENT = "IllegalArgumentException";
    private static final String INDEX = "IndexOutOfBoundsException";
    private static final String STATE = "IllegalStateException";
    private static final String[] FACE = {
        "int wave(int) " + ARGUMENT,
        "int sample(int,int) " + INDEX + "," + ARGUMENT,
        "int add(int,int,int) " + ARGUMENT,
        "int take() " + STATE,
        "int set(int,int) " + INDEX + "," + ARGUMENT,
        "int code() ",
        "int lose(int) " + INDEX,
        "int spoil(int,int) " + INDEX + "," + ARGUMENT,
        "int append(int) " + ARGUMENT + "," + STATE,
        "int clearBuffer() ",
        "int firstError() ",
        "int load(int) " + INDEX + "," + ARGUMENT,
        "int write(int) " + INDEX,
        "int keep(int) " + ARGUMENT,
        "int goBack(int) " + ARGUMENT + "," + STATE,
        "int undo() " + STATE,
        "int step(int) " + INDEX,
        "int sampleOf(int,int) " + INDEX + "," + ARGUMENT,
        "int blockOf(int,int) " + INDEX + "," + ARGUMENT,
        "int count(int) " + ARGUMENT,
        "int setting(int) " + INDEX,
        "int ifCoded(int,int,int,int) " + ARGUMENT,
        "int ifBlock(int,int,int) " + INDEX + "," + ARGUMENT,
        "int bestStep(int,int) " + INDEX,
        "int ifSpoiled(int,int) " + INDEX + "," + ARGUMENT,
        "double meanSquare() ",
        "float loudness() ",
        "long digest() "};

    public static void main(String[] args) throws IOException {
        face();
        members();
        source();
        document();
        CHECK.end();
    }

    private static void face() {
        Set<String> got = new TreeSet<>();
        for (Method method : SteppedSamples.class.getDeclaredMethods()) {
            if (Modifier.isPublic(method.getModifiers())) {
                got.add(method.getReturnType() + " " + method.getName() + names(method.getParameterTypes(), "(", ")")
                    + " " + names(method.getExceptionTypes(), "", ""));
            }
        }
        CHECK.dueText("the face", got.toString(), new TreeSet<>(Arrays.asList(FACE)).toString());
        int modifiers = SteppedSamples.class.getModifiers();
        CHECK.due("public final", modifiers & (Modifier.PUBLIC | Modifier.FINAL), Modifier.PUBLIC | Modifier.FINAL);
        CHECK.due("constructors", SteppedSamples.class.getDeclaredConstructors().length, 1);
        CHECK.due("public constructors", SteppedSamples.class.getConstructors().length, 1);
    }

    private static String names(Class<?>[] types, String before, String behind) {
        StringBuilder text = new StringBuilder(before);
        for (Class<?> type : types) {
            text.append(text.length() > before.length() ? "," : "").append(type.getSimpleName());
        }
        return text.append(behind).toString();
    }

    private static void members() {
        Set<String> faceNames = new TreeSet<>();
        for (String call : FACE) {
            faceNames.add(call.substring(call.indexOf(' ') + 1, call.indexOf('(')));
        }
        for (Method method : SteppedSamples.class.getDeclaredMethods()) {
            boolean shown = Modifier.isPublic(method.getModifiers());
            boolean hidden = Modifier.isPrivate(method.getModifiers()) && !faceNames.contains(method.getName());
            CHECK.holds("method " + method.getName(), shown || hidden);
            CHECK.holds("at most seven parameters of " + method.getName(), method.getParameterCount() <= 7);
        }
        fields(SteppedSamples.class);
        Class<?>[] inside = SteppedSamples.class.getDeclaredClasses();
        CHECK.holds("classes are at most twelve", inside.length < 12);
        for (Class<?> one : inside) {
            int modifiers = one.getModifiers();
            boolean right = Modifier.isStatic(modifiers) && !Modifier.isPublic(modifiers)
                && !Modifier.isProtected(modifiers);
            CHECK.holds("class " + one.getSimpleName(), right);
            fields(one);
        }
    }

    private static void fields(Class<?> one) {
        for (Field field : one.getDeclaredFields()) {
            int modifiers = field.getModifiers();
            boolean still = !Modifier.isStatic(modifiers) || Modifier.isFinal(modifiers);
            CHECK.holds("field " + field.getName() + " is no static state", still);
            boolean hidden = Modifier.isPrivate(modifiers) || field.getName().equals("NONE");
            CHECK.holds("field " + field.getName() + " is hidden", hidden || one != SteppedSamples.class);
        }
    }

    private static void source() throws IOException {
        Path path = Path.of("src/main/java/SteppedSamples.java");
        String text = Files.readString(path, StandardCharsets.US_ASCII);
        String bare = text.replaceAll("(?s)/\\*.*?\\*/", "").replaceAll("//[^\n]*", "").replaceAll("\"[^\"\n]*\"", "\"\"");
        String[] banned = {"\\bimport (?!java\\.util\\.(ArrayList|List|Arrays|Iterator|NoSuchElementException);)",
            "\\bpackage\\b", "\\bcatch\\b", "\\bfinally\\b", "\\bsynchronized\\b", "\\bassert\\b", "->", "::", "\\bDouble\\b",
            "\\bFloat\\b", "\\bThrowable\\b", "\\bvar\\b", "Exact\\b", "\\bprotected\\b", "\\bRandom\\b", "nanoTime",
            "currentTimeMillis", "\"\" \\+", "\\+ \"\""};
        for (String one : banned) {
            Matcher matcher = Pattern.compile(one).matcher(bare);
            CHECK.holds("the source is without " + one, !matcher.find());
        }
    }

    /** The document's own list of the face, and that each of its sections has a test which names its words. */
    private static void document() {
        Document document = Document.read();
        if (!document.isThere()) {
            return;
        }
        Set<String> face = new TreeSet<>();
        Pattern call = Pattern.compile("public (\\w+) (\\w+)\\((.*)\\)(?: throws (.*))?;");
        for (String line : document.face()) {
            Matcher matcher = call.matcher(line.trim());
            if (matcher.matches()) {
                String types = matcher.group(3).replaceAll(" \\w+(,|$)", "$1").replace(" ", "");
                String thrown = matcher.group(4) == null ? "" : matcher.group(4).replace(" ", "");
                face.add(matcher.group(1) + " " + matcher.group(2) + "(" + types + ") " + thrown);
            }
        }
        CHECK.dueText("the face in the document", face.toString(), new TreeSet<>(Arrays.asList(FACE)).toString());
        Set<String> held = new TreeSet<>();
        for (String test : Document.TESTS) {
            held.addAll(Document.heldBy(test));
        }
        CHECK.dueText("the sections that tests hold", held.toString(), new TreeSet<>(document.sections()).toString());
    }
}
