import java.io.IOException;
import java.lang.reflect.Constructor;
import java.lang.reflect.Field;
import java.lang.reflect.Member;
import java.lang.reflect.Method;
import java.lang.reflect.Modifier;
import java.nio.file.Files;
import java.nio.file.Path;
import java.util.Arrays;
import java.util.Set;
import java.util.TreeSet;
import java.util.regex.Matcher;
import java.util.regex.Pattern;
import java.util.stream.Collectors;

/** The public face as the document tells it, and that nothing else is seen of the class. */
public final class FaceTest {
    private static final Path DOCUMENT = Path.of("../shared/DOC.md");
    private static final Pattern METHOD =
        Pattern.compile("^    public (int|boolean|void) (\\w+)\\(([^)]*)\\)(?: throws ([^;]*))?;", Pattern.MULTILINE);

    private FaceTest() {
    }

    public static void main(String[] args) throws IOException, ReflectiveOperationException {
        faceOfTheDocument();
        nothingElseIsSeen();
        Check.end();
    }

    private static void faceOfTheDocument() throws IOException, ReflectiveOperationException {
        Check.begin("the face");
        Set<String> want = new TreeSet<>();
        Matcher m = METHOD.matcher(Files.readString(DOCUMENT));
        while (m.find()) {
            String types = m.group(3).replaceAll("(int|boolean) \\w+", "$1").replace(" ", "");
            String thrown = m.group(4) == null ? "" : m.group(4).replace(" ", "");
            want.add(m.group(1) + " " + m.group(2) + "(" + types + ") " + thrown);
        }
        Set<String> got = new TreeSet<>();
        for (Method method : PaneStreet.class.getDeclaredMethods()) {
            if (Modifier.isPublic(method.getModifiers())) {
                String types = Arrays.stream(method.getParameterTypes()).map(Class::getSimpleName)
                    .collect(Collectors.joining(","));
                String thrown = Arrays.stream(method.getExceptionTypes()).map(Class::getSimpleName)
                    .collect(Collectors.joining(","));
                got.add(method.getReturnType() + " " + method.getName() + "(" + types + ") " + thrown);
            }
        }
        Check.due("methods", got, want);
        Check.due("how many", got.size(), 54);
        Field none = PaneStreet.class.getField("NONE");
        int ofNone = none.getModifiers();
        boolean isConstant = Modifier.isPublic(ofNone) && Modifier.isStatic(ofNone) && Modifier.isFinal(ofNone);
        Check.due("NONE is a constant int", isConstant && none.getType() == int.class, true);
        Check.due("NONE", none.getInt(null), -1);
        int modifiers = PaneStreet.class.getModifiers();
        Check.due("public and final", Modifier.isPublic(modifiers) && Modifier.isFinal(modifiers), true);
        Constructor<?>[] made = PaneStreet.class.getDeclaredConstructors();
        Check.due("one constructor", made.length == 1 && Modifier.isPublic(made[0].getModifiers()), true);
    }

    private static void nothingElseIsSeen() {
        Check.begin("nothing else is seen");
        Set<String> face = new TreeSet<>();
        for (Method method : PaneStreet.class.getDeclaredMethods()) {
            if (Modifier.isPublic(method.getModifiers())) {
                face.add(method.getName());
            } else {
                isPrivate(method);
            }
        }
        for (Field field : PaneStreet.class.getDeclaredFields()) {
            if (!field.getName().equals("NONE")) {
                isPrivate(field);
            }
        }
        Class<?>[] inner = PaneStreet.class.getDeclaredClasses();
        Check.due("some twelve classes", inner.length + 1 <= 12, true);
        for (Class<?> one : inner) {
            int modifiers = one.getModifiers();
            boolean isHidden = !Modifier.isPublic(modifiers) && !Modifier.isProtected(modifiers);
            Check.due(one + " is hidden and static", isHidden && Modifier.isStatic(modifiers), true);
            for (Method method : one.getDeclaredMethods()) {
                Check.due(method + " has no name of the face", face.contains(method.getName()), false);
                Check.due(method + " takes seven at most", method.getParameterCount() <= 7, true);
            }
            for (Field field : one.getDeclaredFields()) {
                if (Modifier.isStatic(field.getModifiers())) {
                    Check.due(field + " is final", Modifier.isFinal(field.getModifiers()), true);
                }
            }
        }
        for (Method method : PaneStreet.class.getDeclaredMethods()) {
            if (!Modifier.isPublic(method.getModifiers())) {
                Check.due(method + " has no name of the face", face.contains(method.getName()), false);
            }
        }
    }

    private static void isPrivate(Member member) {
        Check.due(member.getName() + " is private", Modifier.isPrivate(member.getModifiers()), true);
    }
}
