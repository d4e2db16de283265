import java.io.IOException;
import java.lang.reflect.Constructor;
import java.lang.reflect.Field;
import java.lang.reflect.Method;
import java.lang.reflect.Modifier;
import java.nio.file.Files;
import java.nio.file.Path;
import java.util.Set;
import java.util.TreeSet;

/** What of LANGUAGE.md can be seen from the class and its text, and the face that the document tells. */
public final class LanguageTest {
    private static final Path SOURCE = Path.of("src/main/java/AbreastQuay.java");
    private static final Path DOCUMENT = Path.of("../shared/DOC.md");
    private static final String[] NO_WORDS = {
        "throw", "throws", "try", "catch", "synchronized", "assert", "package", "System.out", "Exact", "hashCode", "toString",
        "random", "Random", "nanoTime", "currentTimeMillis", "Thread", "native", "volatile", "transient", "protected",
    };

    public static void main(String[] args) throws IOException {
        faceIsTheDocuments();
        othersArePrivate();
        classesInsideAreSmall();
        textKeepsToTheRules();
        methodsStayShort();
        Check.end();
    }

    private static void faceIsTheDocuments() throws IOException {
        Set<String> want = new TreeSet<>();
        for (String line : Files.readAllLines(DOCUMENT)) {
            if (line.startsWith("    public ") && line.contains("(")) {
                String types = line.replaceAll(".*\\((.*)\\).*", "$1").replaceAll("(\\w+) \\w+", "$1").replace(" ", "");
                want.add(line.replaceAll("\\(.*", "").trim().replaceAll(".* ", "") + "(" + types + ")");
            }
        }
        Set<String> have = new TreeSet<>();
        for (Method m : AbreastQuay.class.getDeclaredMethods()) {
            if (Modifier.isPublic(m.getModifiers())) {
                have.add(m.getName() + typesOf(m.getParameterTypes()));
                Check.holds(m + " answers an int, and is no static one", m.getReturnType() == int.class && !Modifier.isStatic(m.getModifiers()));
            }
        }
        for (Constructor<?> c : AbreastQuay.class.getDeclaredConstructors()) {
            have.add("AbreastQuay" + typesOf(c.getParameterTypes()));
        }
        Check.due("members of the document's face", want.size(), 30);
        Check.holds("the face is " + want + ", not " + have, want.equals(have));
        int modifiers = AbreastQuay.class.getModifiers();
        Check.holds("the class is public and final", Modifier.isPublic(modifiers) && Modifier.isFinal(modifiers));
    }

    private static String typesOf(Class<?>[] types) {
        StringBuilder s = new StringBuilder("(");
        for (Class<?> t : types) {
            s.append(s.length() > 1 ? "," : "").append(t.getSimpleName());
        }
        return s.append(")").toString();
    }

    private static void othersArePrivate() {
        Set<String> face = new TreeSet<>();
        for (Method m : AbreastQuay.class.getMethods()) {
            face.add(m.getName());
        }
        for (Method m : AbreastQuay.class.getDeclaredMethods()) {
            boolean isPublic = Modifier.isPublic(m.getModifiers());
            Check.holds(m + " is public or private", isPublic || Modifier.isPrivate(m.getModifiers()));
            Check.holds(m + " bears a name of its own", isPublic || !face.contains(m.getName()));
        }
        for (Field f : AbreastQuay.class.getDeclaredFields()) {
            Check.holds(f + " is private", Modifier.isPrivate(f.getModifiers()));
        }
        for (Class<?> inside : AbreastQuay.class.getDeclaredClasses()) {
            for (Method m : inside.getDeclaredMethods()) {
                Check.holds(m + " bears a name of its own", !face.contains(m.getName()));
            }
        }
    }

    private static void classesInsideAreSmall() {
        Class<?>[] inside = AbreastQuay.class.getDeclaredClasses();
        Check.holds("at most twelve classes", inside.length < 12);
        checkClass(AbreastQuay.class);
        for (Class<?> c : inside) {
            Check.holds(c + " is static", Modifier.isStatic(c.getModifiers()));
            checkClass(c);
        }
    }

    private static void checkClass(Class<?> c) {
        int fields = 0;
        for (Field f : c.getDeclaredFields()) {
            boolean isStatic = Modifier.isStatic(f.getModifiers());
            fields += isStatic ? 0 : 1;
            boolean constant = Modifier.isFinal(f.getModifiers()) && f.getType().isPrimitive();
            Check.holds(f + " is a constant, if static", !isStatic || constant);
        }
        Check.holds(c + " has at most twenty fields", fields <= 20);
        for (Method m : c.getDeclaredMethods()) {
            Check.holds(m + " takes at most seven", m.getParameterCount() <= 7);
            Check.holds(m + " is no lambda", !m.isSynthetic());
        }
    }

    private static String codeAlone() throws IOException {
        return Files.readString(SOURCE).replaceAll("(?s)/\\*.*?\\*/", "").replaceAll("//[^\n]*", "");
    }

    private static void textKeepsToTheRules() throws IOException {
        String code = codeAlone();
        for (String word : NO_WORDS) {
            Check.holds("no " + word, !code.matches("(?s).*\\b" + word + "\\b.*"));
        }
        Check.holds("no lambda, no method reference", !code.contains("->") && !code.contains("::"));
        for (String line : code.split("\n")) {
            Check.holds("library: " + line, !line.startsWith("import ") || line.equals("import java.util.Arrays;"));
            Check.holds("signs below 128: " + line, line.chars().allMatch(sign -> sign < 128));
        }
        String library = code.replaceAll("Arrays\\.fill\\(|Integer\\.bitCount\\(|Math\\.min\\(|System\\.arraycopy\\(|import java\\.util\\.Arrays;", "");
        for (String name : new String[] {"Arrays", "Integer", "Math", "System", "Long", "String", "List"}) {
            Check.holds("of " + name + " only what is listed", !library.matches("(?s).*\\b" + name + "\\b.*"));
        }
    }

    private static void methodsStayShort() throws IOException {
        int start = -1;
        String[] lines = codeAlone().split("\n");
        for (int i = 0; i < lines.length; i++) {
            if (lines[i].matches(" {4}( {4})?[^ }].*\\) \\{") && start < 0) {
                start = i;
            }
            if (start >= 0 && lines[i].matches(" {4}( {4})?\\}") && lines[i].indexOf('}') == lines[start].length() - lines[start].stripLeading().length()) {
                Check.holds(lines[start].trim() + " is short", i - start <= 60);
                start = -1;
            }
        }
    }
}
