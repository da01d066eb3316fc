import java.io.IOException;
import java.lang.reflect.Constructor;
import java.lang.reflect.Field;
import java.lang.reflect.Member;
import java.lang.reflect.Method;
import java.lang.reflect.Modifier;
import java.nio.file.Files;
import java.nio.file.Path;
import java.util.Arrays;
import java.util.Set;
import java.util.TreeSet;

/** The public face, and those rules of LANGUAGE.md that can be seen from outside or by a plain look at the text. */
final class FaceTest {
    private static final String[] FACE = {
        "int feed(int,int,int,int,int)", "int text(int)", "int fault(int)", "int named(int)", "int ring(int,int)",
        "int man(int,int)", "int tone(int,int)", "int price(int)", "long law(int,int)", "int buy(int,int,int)",
        "boolean put(int,int)", "int hang(int)", "int lend(int,int)", "int go(int)", "int ahead(int,int,int)",
        "int through(int)", "int when(int,int)", "int lines()", "int stop(int)", "int shift(int)",
        "int rests(int,int)", "int rest(int,int,int)", "int auction(int,int)", "int part(int,int,int)",
        "int round(int,int)", "int busiest()", "int hard(int)", "int hear(int,int,boolean)", "int out(int)",
        "boolean known(int)", "int spans(int)", "int chance(int,int,int)", "int tried(int,int,int)", "int undo()",
        "int keep()", "int back()", "int count(int)"};

    public static void main(String[] args) throws IOException {
        face();
        privates();
        words();
        Check.end();
    }

    private static String shape(Method m) {
        StringBuilder s = new StringBuilder(m.getReturnType() + " " + m.getName() + "(");
        for (Class<?> c : m.getParameterTypes()) {
            s.append(s.charAt(s.length() - 1) == '(' ? "" : ",").append(c);
        }
        return s.append(")").toString();
    }

    private static void face() {
        Class<?> c = EngagedTone.class;
        Check.due("public and final", Modifier.isPublic(c.getModifiers()) && Modifier.isFinal(c.getModifiers()), true);
        Set<String> found = new TreeSet<>();
        for (Method m : c.getDeclaredMethods()) {
            if (!Modifier.isPrivate(m.getModifiers()) && !m.isSynthetic()) {
                Check.due(m.getName() + " is public", Modifier.isPublic(m.getModifiers()), true);
                found.add(shape(m));
            }
        }
        Set<String> due = new TreeSet<>(Arrays.asList(FACE));
        Check.due("methods of the face: " + found, found.equals(due), true);
        for (Field f : c.getDeclaredFields()) {
            Check.due(f.getName() + " is private, or NONE", Modifier.isPrivate(f.getModifiers()),
                !f.getName().equals("NONE"));
            Check.due(f.getName() + ": what is static is final",
                !Modifier.isStatic(f.getModifiers()) || Modifier.isFinal(f.getModifiers()), true);
        }
        for (Constructor<?> k : c.getDeclaredConstructors()) {
            Check.due("constructor", k.getParameterCount() == 0 && Modifier.isPublic(k.getModifiers()), true);
        }
        Check.due("NONE", EngagedTone.NONE, -1);
    }

    private static void privates() {
        Set<String> open = new TreeSet<>();
        for (String shape : FACE) {
            open.add(shape.substring(shape.indexOf(' ') + 1, shape.indexOf('(')));
        }
        Check.due("at most twelve classes", EngagedTone.class.getDeclaredClasses().length <= 12, true);
        for (Class<?> c : EngagedTone.class.getDeclaredClasses()) {
            Check.due(c + " is static", Modifier.isStatic(c.getModifiers()), true);
            Check.due(c + " has some twenty fields", c.getDeclaredFields().length <= 20, true);
            for (Method m : c.getDeclaredMethods()) {
                Check.due(c + ": " + m.getName() + " is no name of the face", !open.contains(m.getName()), true);
                Check.due(c + ": " + m.getName() + " has seven parameters", m.getParameterCount() <= 7, true);
            }
        }
        for (Member m : EngagedTone.class.getDeclaredMethods()) {
            Check.due(m.getName() + " is private and of the face",
                Modifier.isPrivate(m.getModifiers()) && open.contains(m.getName()), false);
        }
    }

    private static void words() throws IOException {
        String source = Files.readString(Path.of("src/main/java/EngagedTone.java"));
        for (String word : new String[] {"try", "catch", "finally", "synchronized", "assert", "package", "Exact(",
            "System.out", "->", "::", "float", "double", "Random", "Thread", "hashCode", "String.valueOf"}) {
            boolean isThere = word.matches("[a-z]+") ? source.matches("(?s).*\\b" + word + "\\b(?! it).*")
                : source.contains(word);
            Check.due("'" + word + "' in the class", isThere, false);
        }
        Check.due("imports", source.split("\nimport ").length + (source.startsWith("import ") ? 1 : 0), 2);
        for (int i = 0; i < source.length(); i++) {
            if (source.charAt(i) > 126) {
                Check.due("sign at " + i, source.charAt(i), 126);
            }
        }
    }
}
