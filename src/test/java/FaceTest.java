import java.io.IOException;
import java.lang.reflect.Constructor;
import java.lang.reflect.Field;
import java.lang.reflect.Method;
import java.lang.reflect.Modifier;
import java.nio.file.Files;
import java.nio.file.Path;
import java.util.Arrays;
import java.util.Set;
import java.util.TreeSet;

/** The class has the document's face and no other, and stays within some rules of LANGUAGE.md. */
public final class FaceTest {
    private static final String SOURCE = "src/main/java/SecretBox.java";
    private static final String[] METHODS = {
        "int panel(int,int)", "int lock(int,int,int,int)", "int lid(int)", "int of(int,int)", "int at(int,int)", "int type(int)",
        "int box()", "int count(int)", "int slide(int,int)", "int shut()", "int file(int)", "int drift(int)", "int undo()",
        "int seed(int)", "int opens(int)", "int rows()", "int reach(int)", "int key(int)", "int files(int,int)", "int game(int)",
        "long fumble(int,int)", "int image()", "int restore()", "int to(int,int,int,int)", "int clicks(int,int,int,int,int)",
        "int film(int,int,int)", "int sheet(int,int,int)", "int drop(int)", "int item(int,int,int,long)",
        "int copy(int,int,int,int,int)"};
    private static final String[] WORDS_LEFT_OUT = {"import ", "throw", "catch", "finally", "synchronized", "assert", "->", "::",
        "Exact(", "System.out", "System.nano", "System.current", "Random", "Thread", "static {", "Object "};

    private static final Check check = new Check("FaceTest");

    public static void main(String[] args) throws IOException {
        constants();
        methods();
        classesInside();
        words();
        check.end();
    }

    private static void constants() {
        check.due("BAD", SecretBox.BAD, -1);
        check.due("NOT", SecretBox.NOT, -2);
        check.due("FULL", SecretBox.FULL, -3);
        check.due("NONE", SecretBox.NONE, -4);
        check.due("NULL", SecretBox.NULL, -11);
        check.due("CAST", SecretBox.CAST, -12);
        check.due("INDEX", SecretBox.INDEX, -13);
        check.due("SIZE", SecretBox.SIZE, -14);
        int open = 0;
        for (Field field : SecretBox.class.getDeclaredFields()) {
            if (!Modifier.isPrivate(field.getModifiers())) open++;
            if (Modifier.isStatic(field.getModifiers())) due("final: " + field, Modifier.isFinal(field.getModifiers()));
        }
        check.due("constants that others see", open, 8);
    }

    private static void due(String what, boolean is) {
        check.due(what, is ? 1 : 0, 1);
    }

    private static void methods() {
        due("a public final class", Modifier.isPublic(SecretBox.class.getModifiers()) && Modifier.isFinal(SecretBox.class.getModifiers()));
        check.due("constructors", SecretBox.class.getDeclaredConstructors().length, 1);
        for (Constructor<?> made : SecretBox.class.getDeclaredConstructors()) {
            due("a public constructor without arguments", Modifier.isPublic(made.getModifiers()) && made.getParameterCount() == 0);
        }
        Set<String> wanted = new TreeSet<>(Arrays.asList(METHODS));
        for (Method method : SecretBox.class.getDeclaredMethods()) {
            StringBuilder told = new StringBuilder(method.getReturnType() + " " + method.getName() + "(");
            for (Class<?> type : method.getParameterTypes()) told.append(told.charAt(told.length() - 1) == '(' ? "" : ",").append(type);
            String face = told.append(")").toString();
            if (Modifier.isPrivate(method.getModifiers())) due("a private name of its own: " + face, !isName(method.getName()));
            else due("of the face: " + face, wanted.remove(face) && Modifier.isPublic(method.getModifiers()));
            due("no static one: " + face, Modifier.isPrivate(method.getModifiers()) || !Modifier.isStatic(method.getModifiers()));
            due("at most seven parameters: " + face, method.getParameterCount() <= 7);
        }
        check.due("methods left out " + wanted, wanted.size(), 0);
    }

    private static boolean isName(String name) {
        for (String method : METHODS) if (method.contains(" " + name + "(")) return true;
        return false;
    }

    private static void classesInside() {
        due("at most a dozen classes", SecretBox.class.getDeclaredClasses().length <= 11);
        for (Class<?> inside : SecretBox.class.getDeclaredClasses()) {
            due("static, not public: " + inside, Modifier.isStatic(inside.getModifiers()) && !Modifier.isPublic(inside.getModifiers()));
            int fields = 0;
            for (Field field : inside.getDeclaredFields()) {
                if (!Modifier.isStatic(field.getModifiers())) fields++;
                due("no static state: " + field, !Modifier.isStatic(field.getModifiers()) || Modifier.isFinal(field.getModifiers()));
            }
            due("some twenty fields: " + inside, fields <= 20);
            for (Method method : inside.getDeclaredMethods()) due("a name of its own: " + method, !isName(method.getName()));
        }
    }

    private static void words() throws IOException {
        String source = Files.readString(Path.of(SOURCE));
        for (String word : WORDS_LEFT_OUT) due("without \"" + word + "\"", !source.contains(word));
        due("signs 1 to 127", source.chars().allMatch(sign -> sign < 128));
        // All calls of a run live in one room: what is made with the object once can't fill it.
        for (String line : source.split("\n")) {
            if (!line.matches(".*\\bnew \\w+[\\[(].*")) continue;
            due("made with the object: " + line, line.trim().matches("(private )?final \\w+(\\[\\])? \\w+ = .*;"));
        }
    }
}
