import java.lang.reflect.Method;
import java.lang.reflect.Modifier;
import java.nio.file.Files;
import java.nio.file.Path;
import java.util.Arrays;
import java.util.HashSet;
import java.util.Set;
import java.util.TreeSet;
import java.util.stream.Collectors;

/** The class has the document's face and no more, and keeps to what of LANGUAGE.md can be seen by name. */
public final class FaceTest {
    public static void main(String[] args) throws Exception {
        Check.is("NONE", TillTheBell.NONE, -1);
        Check.is("SPENT", TillTheBell.SPENT, -100000);
        Check.yes("final", Modifier.isFinal(TillTheBell.class.getModifiers()));
        theDocumentsFace();
        members();
        theSource();
        Check.end("FaceTest");
    }

    private static void theDocumentsFace() throws Exception {
        Set<String> due = new TreeSet<>();
        for (String line : Files.readAllLines(Path.of("../shared/DOC.md"))) {
            if (line.startsWith("    public ") && line.contains("(") && !line.contains("TillTheBell(")) {
                due.add(line.trim().replaceAll("^public |;$", "").replaceAll("(int|long) [a-z]+([,)])", "$1$2"));
            }
        }
        Set<String> got = new TreeSet<>();
        for (Method m : TillTheBell.class.getDeclaredMethods()) {
            if (Modifier.isPublic(m.getModifiers())) {
                got.add(signature(m));
            }
        }
        Check.is("46 methods in the document", due.size(), 46);
        Check.yes("the document's methods and throws: " + due + "\n" + got, due.equals(got));
    }

    private static String signature(Method m) {
        String of = Arrays.stream(m.getParameterTypes()).map(Class::getSimpleName).collect(Collectors.joining(", "));
        String thrown = Arrays.stream(m.getExceptionTypes()).map(Class::getSimpleName).collect(Collectors.joining(", "));
        return m.getReturnType().getSimpleName() + " " + m.getName() + "(" + of + ")" + (thrown.isEmpty() ? "" : " throws " + thrown);
    }

    private static void members() {
        Set<String> face = new HashSet<>();
        for (Method m : TillTheBell.class.getDeclaredMethods()) {
            if (Modifier.isPublic(m.getModifiers())) {
                face.add(m.getName());
            } else {
                Check.yes("private: " + m, Modifier.isPrivate(m.getModifiers()));
            }
        }
        for (var f : TillTheBell.class.getDeclaredFields()) {
            boolean constant = f.getName().equals("NONE") || f.getName().equals("SPENT");
            Check.yes("private: " + f, constant || Modifier.isPrivate(f.getModifiers()));
            Check.yes("final: " + f, Modifier.isFinal(f.getModifiers()));
        }
        Check.is("one constructor", TillTheBell.class.getDeclaredConstructors().length, 1);
        Check.yes("few classes", TillTheBell.class.getDeclaredClasses().length <= 11);
        for (Class<?> c : TillTheBell.class.getDeclaredClasses()) {
            Check.yes("static: " + c, Modifier.isStatic(c.getModifiers()));
            for (Method m : c.getDeclaredMethods()) {
                Check.yes("another name than the face's: " + m, !face.contains(m.getName()));
                Check.yes("seven parameters at most: " + m, m.getParameterCount() <= 7);
            }
            long fields = Arrays.stream(c.getDeclaredFields()).filter(f -> !Modifier.isStatic(f.getModifiers())).count();
            Check.yes("twenty fields at most: " + c, fields <= 20);
        }
    }

    private static void theSource() throws Exception {
        String source = Files.readString(Path.of("src/main/java/TillTheBell.java"));
        for (String word : new String[] {"catch", "finally", "->", "::", "synchronized", "assert ", "System.nano", "System.current", "Exact(", "package ",
            "HashMap", "Random", "double", "float", "instanceof", "static {", "protected "}) {
            Check.yes("not in the source: " + word, !source.contains(word));
        }
        Set<String> imports = Set.of("import java.util.Arrays;", "import java.util.NoSuchElementException;");
        for (String line : source.split("\n")) {
            Check.yes("import: " + line, !line.startsWith("import ") || imports.contains(line));
        }
        for (char c : source.toCharArray()) {
            if (c > 126 || c < 32 && c != 10) {
                Check.yes("plain signs alone", false);
            }
        }
    }
}
