import java.io.IOException;
import java.lang.reflect.Array;
import java.lang.reflect.Field;
import java.lang.reflect.Modifier;
import java.nio.file.Files;
import java.nio.file.Path;
import java.util.IdentityHashMap;
import java.util.Map;

/**
 * The room of a run: a new object is small and no call makes one, so 512 calls keep to what the constructor made; and
 * the 512th call answers as well as the first.
 */
public final class RoomTest {
    private static final Due due = new Due("RoomTest");
    private static final int CALLS = 512;

    public static void main(String[] args) throws IOException, IllegalAccessException {
        aNewObjectIsSmall();
        onlyFieldsAreMade(Files.readString(Path.of("src/main/java/PigeonPost.java")));
        dearestCalls();
        lastCall();
        due.end();
    }

    private static void aNewObjectIsSmall() throws IllegalAccessException {
        Map<Object, Boolean> seen = new IdentityHashMap<>();
        long elements = count(new PigeonPost(), seen);
        due.is("few objects: " + seen.size(), seen.size() < 400, true);
        due.is("few fields and elements: " + elements, elements < 8000, true);
    }

    /** Fields and elements of an object and of all that it holds. */
    private static long count(Object object, Map<Object, Boolean> seen) throws IllegalAccessException {
        if (object == null || seen.put(object, true) != null) return 0;
        long elements = 0;
        if (object.getClass().isArray()) {
            elements += Array.getLength(object);
            if (object instanceof Object[]) for (Object part : (Object[]) object) elements += count(part, seen);
            return elements;
        }
        for (Field field : object.getClass().getDeclaredFields()) {
            if (Modifier.isStatic(field.getModifiers())) continue;
            elements++;
            field.setAccessible(true);
            if (!field.getType().isPrimitive()) elements += count(field.get(object), seen);
        }
        return elements;
    }

    private static void onlyFieldsAreMade(String text) {
        String[] lines = text.replaceAll("(?s)/\\*.*?\\*/", "").replaceAll("//[^\n]*", "").split("\n");
        for (int i = 0; i < lines.length; i++) {
            boolean makes = lines[i].matches(".*\\bnew\\b.*");
            boolean ofField = lines[i].matches(" {4,8}private final [\\w\\[\\]]+ \\w+ = new .*;");
            due.is("line " + (i + 1) + " makes an object outside a field", makes && !ofField, false);
        }
    }

    /** 184 calls ahead, and 326 of the dearest ones behind them. */
    private static void dearestCalls() {
        PigeonPost post = Posts.withTowns(10);
        for (int a = 0; a < 10; a++) {
            for (int b = a + 1; b < 10; b++) post.road(a, b, 500, 9);
        }
        // ROADS over 1, 2 and 3 to 9, with four doubles on each
        for (int town = 1; town < 4; town++) {
            Posts.birds(post, 4, town, 0);
            Posts.birds(post, 4, 9, town);
            Posts.birds(post, 4, town % 3 + 1, town);
            Posts.birds(post, 4, town, town % 3 + 1);
        }
        Posts.birds(post, 12, 0, 0);
        for (int town = 1; town < 10; town++) post.want(town, 0, 20, 100);
        for (int i = 0; i < 163; i++) {
            due.is("relay that there is none of", post.relay(0, 9, 1, 1), -1);
            due.is("carrying", post.carrying(0), 1200);
        }
        due.is("relay", post.relay(0, 9, 1, 1000), 2);
    }

    private static void lastCall() {
        PigeonPost post = Posts.withTowns(2);
        post.road(0, 1, 10, 5);
        int calls = 3;
        for (; calls < CALLS - 1; calls++) post.sure(0, 1, calls % 5);
        due.is("call 512", post.doubles(0, 1, 3, 4), 2);
    }
}
