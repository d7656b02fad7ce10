import java.io.IOException;
import java.lang.reflect.Constructor;
import java.lang.reflect.Field;
import java.lang.reflect.Method;
import java.lang.reflect.Modifier;
import java.nio.file.Files;
import java.nio.file.Path;
import java.util.HashSet;
import java.util.Set;
import java.util.TreeSet;
import java.util.regex.Pattern;

/** The class has the document's face and no more, and keeps to the language rules that can be looked up. */
public final class FaceTest {
    private static final String[] METHODS = {
        "base 2", "panel 6", "deduction 1", "gauge 1", "over 0", "flat 0", "wrong 1", "flatOf 2", "size 1", "place 3",
        "meets 1", "moves 1", "clear 2", "edge 2", "order 0", "step 1", "count 1", "check 0"};
    private static final String[] RULED_OUT = {
        "\\bimport\\s+(?!java\\.util\\.(ArrayList|List|Arrays|Iterator|NoSuchElementException);)", "\\bpackage\\b",
        "\\bfinally\\b", "::", "Exact\\b", "\\bsynchronized\\b", "\\bassert\\b", "\\bSystem\\.(?!arraycopy)",
        "\\bThread\\b", "\\bRandom\\b", "\\bprotected\\b", "\\bstatic\\s*\\{",
        "\\bcatch\\s*\\([^)]*\\bException\\b", "\\bThrowable\\b", "\\bError\\b",
        "\\b(ArrayIndexOutOfBounds|NullPointer|ClassCast|NegativeArraySize|ArrayStore)Exception\\b"};
    private static final int MOST_FIELDS = 20;
    private static final int MOST_PARAMETERS = 7;
    private static final int MOST_CLASSES = 12;

    private FaceTest() {
    }

    public static void main(String[] args) throws IOException {
        Class<?> face = SheetFolder.class;
        int modifiers = face.getModifiers();
        Due.dueTrue("public and final", Modifier.isPublic(modifiers) && Modifier.isFinal(modifiers));
        Set<String> names = lookAtMethods(face);
        lookAtConstants(face);
        Constructor<?>[] made = face.getDeclaredConstructors();
        Due.dueTrue("one public constructor without arguments",
                made.length == 1 && Modifier.isPublic(made[0].getModifiers()) && made[0].getParameterCount() == 0);
        Due.dueTrue("few classes", face.getDeclaredClasses().length < MOST_CLASSES);
        lookAtFields(face);
        for (Class<?> inside : face.getDeclaredClasses()) {
            Due.dueTrue(inside + " is static and not public",
                    Modifier.isStatic(inside.getModifiers()) && !Modifier.isPublic(inside.getModifiers()));
            lookAtFields(inside);
            for (Method method : inside.getDeclaredMethods()) {
                Due.dueTrue(method + " has no name of the face", !names.contains(method.getName()));
                Due.dueTrue(method + " has few parameters", method.getParameterCount() <= MOST_PARAMETERS);
            }
        }
        lookAtText();
        Due.end();
    }

    private static Set<String> lookAtMethods(Class<?> face) {
        Set<String> names = new HashSet<>();
        Set<String> seen = new TreeSet<>();
        for (Method method : face.getDeclaredMethods()) {
            if (!Modifier.isPrivate(method.getModifiers())) {
                boolean isPlain = Modifier.isPublic(method.getModifiers()) && !Modifier.isStatic(method.getModifiers())
                        && method.getReturnType() == int.class;
                Due.dueTrue(method + " is a public method that answers an int", isPlain);
                for (Class<?> type : method.getParameterTypes()) {
                    Due.dueTrue(method + " takes ints", type == int.class);
                }
                names.add(method.getName());
                seen.add(method.getName() + " " + method.getParameterCount());
            }
        }
        Due.dueTrue("the methods of the face: " + seen, seen.equals(new TreeSet<>(Set.of(METHODS))));
        for (Method method : face.getDeclaredMethods()) {
            Due.dueTrue(method + " has no name of the face",
                    !Modifier.isPrivate(method.getModifiers()) || !names.contains(method.getName()));
            Due.dueTrue(method + " has few parameters", method.getParameterCount() <= MOST_PARAMETERS);
        }
        return names;
    }

    private static void lookAtConstants(Class<?> face) {
        for (Field field : face.getDeclaredFields()) {
            boolean isOfFace = field.getName().equals("NONE") || field.getName().equals("NOWHERE");
            int modifiers = field.getModifiers();
            Due.dueTrue(field + " is a public constant, or private", isOfFace
                    ? Modifier.isPublic(modifiers) && Modifier.isStatic(modifiers) && field.getType() == int.class
                    : Modifier.isPrivate(modifiers));
        }
    }

    private static void lookAtFields(Class<?> of) {
        int fields = 0;
        for (Field field : of.getDeclaredFields()) {
            if (Modifier.isStatic(field.getModifiers())) {
                Due.dueTrue(field + " is final", Modifier.isFinal(field.getModifiers()));
            } else {
                fields++;
            }
        }
        Due.dueTrue(of + " has few fields: " + fields, fields <= MOST_FIELDS);
    }

    private static void lookAtText() throws IOException {
        String text = Files.readString(Path.of("src/main/java/SheetFolder.java"));
        String code = text.replaceAll("(?s)/\\*.*?\\*/", "").replaceAll("//[^\n]*", "");
        for (String word : RULED_OUT) {
            Due.dueTrue("the code has no " + word, !Pattern.compile(word).matcher(code).find());
        }
        Due.dueTrue("characters up to 255", text.chars().allMatch(c -> c < 256));
    }
}
