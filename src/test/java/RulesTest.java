import java.io.IOException;
import java.lang.reflect.Constructor;
import java.lang.reflect.Field;
import java.lang.reflect.Method;
import java.lang.reflect.Modifier;
import java.nio.file.Files;
import java.nio.file.Path;
import java.util.List;
import java.util.Set;
import java.util.TreeSet;

/** Some of the rules of LANGUAGE.md that can be seen by reading: the face, the words, the lengths. */
public final class RulesTest {
    private static final Path SOURCE = Path.of("src/main/java/EscapeRouter.java");
    private static final List<String> BANNED = List.of("throw", "try", "catch", "synchronized", "assert",
            "import", "package", "interface", "protected", "static {", "->", "::", "System.out", "System.nano",
            "equals", "hashCode", "toString", "String", "Exact");
    private static final Set<String> FACE = Set.of("appendCharacter/1", "clearText/0", "loadGrid/0", "setKind/3",
            "setChannelCapacity/1", "setTileCapacity/1", "rows/0", "columns/0", "kindAt/2", "signalCount/0",
            "makePair/4", "breakPair/2", "partnerOf/2", "select/2", "deselect/2", "clearSelection/0",
            "escapeCount/0", "tileSide/2", "cutChannels/0", "layerCount/1", "layerOf/3", "layerLoad/2",
            "bestStrategy/0", "throughput/0", "lowerBound/0", "undo/0");
    private static final Set<String> CONSTANTS = Set.of("INVALID_ARGUMENT", "INVALID_STATE", "LIMIT_REACHED",
            "NONE", "NONE_THERE", "SIGNAL", "POWER");

    public static void main(String[] args) throws IOException {
        face();
        innerClasses();
        words();
        lengths();
        Checks.finish("RulesTest");
    }

    private static void face() {
        Set<String> names = new TreeSet<>();
        for (Method method : EscapeRouter.class.getDeclaredMethods()) {
            if (Modifier.isPublic(method.getModifiers())) {
                names.add(method.getName() + "/" + method.getParameterCount());
                Checks.holds(method + " answers int", method.getReturnType() == int.class);
            } else {
                Checks.holds(method + " is private", Modifier.isPrivate(method.getModifiers()));
                boolean known = FACE.stream().anyMatch(name -> name.startsWith(method.getName() + "/"));
                Checks.holds(method + " has a name of its own", !known);
            }
        }
        Checks.holds("the methods are those of the face: " + names, names.equals(FACE));
        for (Field field : EscapeRouter.class.getDeclaredFields()) {
            boolean inFace = CONSTANTS.contains(field.getName());
            int modifiers = field.getModifiers();
            Checks.holds(field + " is as it should be", inFace ? Modifier.isPublic(modifiers)
                    && Modifier.isStatic(modifiers) && Modifier.isFinal(modifiers) : Modifier.isPrivate(modifiers));
        }
        Constructor<?>[] constructors = EscapeRouter.class.getDeclaredConstructors();
        Checks.due("constructors", constructors.length, 1);
        Checks.holds("the constructor is public", Modifier.isPublic(constructors[0].getModifiers()));
        Checks.holds("the class is final", Modifier.isFinal(EscapeRouter.class.getModifiers()));
    }

    private static void innerClasses() {
        Class<?>[] inner = EscapeRouter.class.getDeclaredClasses();
        Checks.holds("at most twelve classes", inner.length < 12);
        for (Class<?> one : inner) {
            int modifiers = one.getModifiers();
            Checks.holds(one + " is static and not public", Modifier.isStatic(modifiers)
                    && !Modifier.isPublic(modifiers) && !Modifier.isProtected(modifiers));
            int fields = 0;
            for (Field field : one.getDeclaredFields()) {
                boolean constant = Modifier.isStatic(field.getModifiers());
                Checks.holds(field + " is final if static", !constant || Modifier.isFinal(field.getModifiers()));
                fields += constant ? 0 : 1;
            }
            Checks.holds(one + " has at most twenty fields", fields <= 20);
        }
    }

    private static void words() throws IOException {
        String code = Files.readString(SOURCE).replaceAll("(?s)/\\*.*?\\*/", "").replaceAll("//[^\n]*", "");
        for (String word : BANNED) {
            Checks.holds("no <" + word + "> in the program", !code.contains(word));
        }
    }

    /** A method begins with a line that ends in ") {" four or eight blanks deep and ends with a brace as deep. */
    private static void lengths() throws IOException {
        List<String> lines = Files.readAllLines(SOURCE);
        for (int i = 0; i < lines.size(); i++) {
            String line = lines.get(i);
            int depth = line.length() - line.stripLeading().length();
            if (line.endsWith(") {") && (depth == 4 || depth == 8) && !line.strip().matches("(if|for|while|switch) .*")) {
                int end = i;
                while (end + 1 < lines.size() && !lines.get(end).equals(" ".repeat(depth) + "}")) {
                    end++;
                }
                Checks.holds(line.strip() + " is at most sixty lines", end - i < 60);
            }
        }
    }
}
