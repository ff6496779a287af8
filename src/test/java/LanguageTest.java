import java.io.IOException;
import java.lang.reflect.Constructor;
import java.lang.reflect.Field;
import java.lang.reflect.Method;
import java.lang.reflect.Modifier;
import java.nio.file.Files;
import java.nio.file.Path;
import java.util.HashSet;
import java.util.List;
import java.util.Set;

/** What can be seen of the language's rules from outside: the face, the classes inside, words that may not stand. */
final class LanguageTest {
    private static final String[] FACE = {"feed/5", "end/1", "script/0", "fault/0", "times/2", "turned/2", "slope/1", "degree/1",
        "at/2", "makes/3", "divides/3", "common/3", "multiple/3", "result/2", "resultDegree/1", "keep/2", "undo/0", "value/2",
        "applied/3", "roots/2", "kin/2", "classes/0", "least/0", "divisors/3", "factorings/1", "factor/3", "like/2", "norm/1",
        "rank/0", "sumRank/0", "weight/2", "points/0", "word/2", "distance/1", "mend/1", "register/0", "tap/1", "image/1",
        "restore/1", "count/1"};
    private static final String[] MAY_NOT_STAND = {"catch", "->", "::", "finally", "assert", "synchronized", "Exact(", "double",
        "float", "instanceof", "java.util.Random", "System.", "Thread", "hashCode", "toString", "static {", "Object", "@"};

    private LanguageTest() {
    }

    public static void main(String[] args) throws IOException {
        face();
        classesInside();
        text();
        Due.close("LanguageTest");
    }

    private static void face() {
        Set<String> named = new HashSet<>();
        Set<String> found = new HashSet<>();
        for (String method : FACE) {
            named.add(method.substring(0, method.indexOf('/')));
        }
        for (Method method : TurnedRing.class.getDeclaredMethods()) {
            int kind = method.getModifiers();
            if (Modifier.isPublic(kind)) {
                found.add(method.getName() + "/" + method.getParameterCount());
            } else if (!method.isSynthetic()) {
                Due.due("private " + method.getName(), Modifier.isPrivate(kind), true);
                Due.due("own name of " + method.getName(), named.contains(method.getName()), false);
            }
        }
        for (String method : FACE) {
            Due.due("face " + method, found.contains(method), true);
        }
        Due.due("methods of the face", found.size(), FACE.length);
        for (Field field : TurnedRing.class.getDeclaredFields()) {
            boolean open = field.getName().equals("NONE");
            Due.due("field " + field.getName(), open ? Modifier.isPublic(field.getModifiers()) : Modifier.isPrivate(field.getModifiers()), true);
        }
        Constructor<?>[] made = TurnedRing.class.getDeclaredConstructors();
        Due.due("constructors", made.length, 1);
        Due.due("constructor is public, of nothing", Modifier.isPublic(made[0].getModifiers()) && made[0].getParameterCount() == 0, true);
        Due.due("final", Modifier.isFinal(TurnedRing.class.getModifiers()), true);
    }

    private static void classesInside() {
        Set<String> named = new HashSet<>();
        for (String method : FACE) {
            named.add(method.substring(0, method.indexOf('/')));
        }
        Class<?>[] inside = TurnedRing.class.getDeclaredClasses();
        Due.due("some twelve classes", inside.length <= 12, true);
        for (Class<?> one : inside) {
            Due.due("private and static " + one.getName(), Modifier.isPrivate(one.getModifiers()) && Modifier.isStatic(one.getModifiers()), true);
            int fields = 0;
            for (Field field : one.getDeclaredFields()) {
                boolean fixed = Modifier.isStatic(field.getModifiers());
                fields += fixed ? 0 : 1;
                Due.due("static is final " + field, !fixed || Modifier.isFinal(field.getModifiers()), true);
            }
            Due.due("some twenty fields in " + one.getName(), fields <= 20, true);
            for (Method method : one.getDeclaredMethods()) {
                Due.due("own name of " + method, named.contains(method.getName()), false);
                Due.due("at most seven parameters " + method, method.getParameterCount() <= 7, true);
            }
        }
    }

    private static void text() throws IOException {
        List<String> lines = Files.readAllLines(Path.of("src/main/java/TurnedRing.java"));
        for (int k = 0; k < lines.size(); k++) {
            String line = lines.get(k);
            for (String word : MAY_NOT_STAND) {
                Due.due("line " + (k + 1) + " has " + word, line.contains(word), false);
            }
            for (char sign : line.toCharArray()) {
                Due.due("line " + (k + 1) + " has the sign " + (int) sign, sign < 32 || sign > 126, false);
            }
            boolean imports = line.startsWith("import ");
            Due.due("import in line " + (k + 1), !imports || line.equals("import java.util.NoSuchElementException;"), true);
            boolean throwing = line.contains("throw ");
            Due.due("throw in line " + (k + 1), !throwing || line.trim().equals("throw new NoSuchElementException();"), true);
        }
    }
}
