import java.io.IOException;
import java.lang.reflect.Constructor;
import java.lang.reflect.Field;
import java.lang.reflect.Method;
import java.lang.reflect.Modifier;
import java.nio.file.Files;
import java.nio.file.Path;
import java.util.HashSet;
import java.util.Set;
import java.util.regex.Matcher;
import java.util.regex.Pattern;

/** The rules of ../shared/LANGUAGE.md that can be seen from the text and the face of the class. */
public final class LanguageTest {
    private static final Due due = new Due("LanguageTest");
    private static final String FACE = "status top bottom tray write read pour town road fare bird carry told waits "
        + "sure doubles relay leg want lack carrying carried fares send letter fly comes lose knows joined copies "
        + "reading right";

    public static void main(String[] args) throws IOException {
        face();
        words(Files.readString(Path.of("src/main/java/PigeonPost.java")));
        due.end();
    }

    private static void face() {
        Set<String> names = new HashSet<>(Set.of(FACE.split(" ")));
        due.is("methods of the face", names.size(), 33);
        for (Method method : PigeonPost.class.getDeclaredMethods()) {
            if (method.isSynthetic()) continue;
            boolean isFace = names.contains(method.getName());
            due.is("public: " + method.getName(), Modifier.isPublic(method.getModifiers()), isFace);
            due.is("private: " + method.getName(), Modifier.isPrivate(method.getModifiers()), !isFace);
            due.is("static: " + method.getName(), isFace && Modifier.isStatic(method.getModifiers()), false);
            if (isFace) names.remove(method.getName());
        }
        due.is("missing methods", names.size(), 0);
        Constructor<?>[] constructors = PigeonPost.class.getDeclaredConstructors();
        due.is("constructors", constructors.length, 1);
        due.is("public", Modifier.isPublic(constructors[0].getModifiers()), true);
        for (Field field : PigeonPost.class.getDeclaredFields()) {
            boolean isConstant = field.getName().equals("NONE");
            due.is(field.getName(), Modifier.isPrivate(field.getModifiers()), !isConstant);
            if (Modifier.isStatic(field.getModifiers())) due.is(field.getName(), Modifier.isFinal(field.getModifiers()), true);
        }
        for (Class<?> inside : PigeonPost.class.getDeclaredClasses()) {
            due.is(inside.getName() + " is static", Modifier.isStatic(inside.getModifiers()), true);
            due.is(inside.getName() + " has few fields", inside.getDeclaredFields().length <= 20, true);
        }
        due.is("few classes", PigeonPost.class.getDeclaredClasses().length < 12, true);
    }

    private static void words(String text) {
        String code = text.replaceAll("(?s)/\\*.*?\\*/", "").replaceAll("//[^\n]*", "");
        Matcher forbidden = Pattern.compile("\\b(throw|throws|try|catch|finally|synchronized|assert|package|double|"
            + "float|Object|System\\.(?!arraycopy)\\w+|\\w+Exact|Thread|Random|->|::)\\b").matcher(code);
        while (forbidden.find()) due.is("the word " + forbidden.group(), 1, 0);
        for (int i = 0; i < text.length(); i++) {
            if (text.charAt(i) > 127) due.is("the sign " + (int) text.charAt(i), 1, 0);
        }
        int longest = 0;
        int begun = -1;
        String[] lines = code.split("\n");
        for (int i = 0; i < lines.length; i++) {
            if (lines[i].matches(" {4,8}[\\w\\[\\]. ]+\\(.*\\) \\{")) begun = i;
            if (begun >= 0 && lines[i].matches(" {4,8}\\}")) longest = Math.max(longest, i - begun + 1);
        }
        due.is("short methods", longest > 0 && longest <= 60, true);
    }
}
