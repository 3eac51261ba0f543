import java.io.IOException;
import java.lang.reflect.Constructor;
import java.lang.reflect.Field;
import java.lang.reflect.Method;
import java.lang.reflect.Modifier;
import java.nio.file.Files;
import java.nio.file.Path;
import java.util.HashSet;
import java.util.List;
import java.util.Set;
import java.util.TreeSet;
import java.util.regex.Matcher;
import java.util.regex.Pattern;

/** The face of the document, and what of LANGUAGE.md can be seen in the source and the classes. */
public final class LanguageTest {
    private static final Path SOURCE = Path.of("src/main/java/AllSawIt.java");
    private static final Path DOCUMENT = Path.of("../shared/DOC.md");
    private static final String[] FORBIDDEN = {"->", "::", "synchronized", "assert ", "finally", "try {", "catch", "Exact(",
        "System.out", "System.err", "Random", "currentTime", "nanoTime", "Thread", "static {", "equals(", "hashCode",
        "toString", "while (true)", "for (;;)", "double", "float", "protected", "getMessage", "String.format", "new int[]["};

    private LanguageTest() {
    }

    public static void main(String[] args) throws IOException, ReflectiveOperationException {
        face();
        classes();
        source();
        Check.end();
    }

    private static String signature(Method m) {
        StringBuilder all = new StringBuilder(m.getReturnType().getSimpleName() + " " + m.getName() + "(");
        for (Class<?> type : m.getParameterTypes()) {
            all.append(type.getSimpleName()).append(' ');
        }
        all.append(")");
        for (Class<?> type : m.getExceptionTypes()) {
            all.append(' ').append(type.getSimpleName());
        }
        return all.toString();
    }

    private static void face() throws IOException, ReflectiveOperationException {
        Check.part("the face");
        Set<String> want = new TreeSet<>();
        Pattern row = Pattern.compile("^    public (\\w+) (\\w+)\\((.*?)\\)(?: throws (.*))?;$", Pattern.MULTILINE);
        Matcher m = row.matcher(Files.readString(DOCUMENT));
        while (m.find()) {
            StringBuilder all = new StringBuilder(m.group(1) + " " + m.group(2) + "(");
            for (String parameter : m.group(3).split(", ")) {
                all.append(parameter.isEmpty() ? "" : parameter.split(" ")[0] + " ");
            }
            all.append(")").append(m.group(4) == null ? "" : " " + m.group(4).replace(",", ""));
            want.add(all.toString());
        }
        Check.due("methods in the document", want.size(), 43);
        Set<String> got = new TreeSet<>();
        Set<String> names = new HashSet<>();
        for (Method method : AllSawIt.class.getDeclaredMethods()) {
            if (!Modifier.isPrivate(method.getModifiers())) {
                got.add(signature(method));
                names.add(method.getName());
            }
        }
        Check.yes("the methods are those of the document: " + got, got.equals(want));
        for (Method method : AllSawIt.class.getDeclaredMethods()) {
            boolean hidden = Modifier.isPrivate(method.getModifiers());
            Check.yes("private " + method.getName(), !hidden || !names.contains(method.getName()));
        }
        for (Field f : AllSawIt.class.getDeclaredFields()) {
            Check.yes("field " + f.getName(), Modifier.isPrivate(f.getModifiers()) || f.getName().equals("NONE"));
        }
        Field none = AllSawIt.class.getField("NONE");
        Check.yes("NONE is static, final, an int", Modifier.isStatic(none.getModifiers())
                && Modifier.isFinal(none.getModifiers()) && none.getType() == int.class);
        Check.due("NONE", none.getInt(null), -1);
        Constructor<?>[] made = AllSawIt.class.getDeclaredConstructors();
        Check.due("constructors", made.length, 1);
        Check.yes("it is public, without parameters", Modifier.isPublic(made[0].getModifiers())
                && made[0].getParameterCount() == 0);
        Check.yes("public and final", Modifier.isPublic(AllSawIt.class.getModifiers())
                && Modifier.isFinal(AllSawIt.class.getModifiers()));
    }

    private static void classes() {
        Check.part("the classes");
        Class<?>[] inside = AllSawIt.class.getDeclaredClasses();
        Check.yes("twelve classes at most", inside.length + 1 <= 12);
        one(AllSawIt.class);
        for (Class<?> c : inside) {
            Check.yes(c + " is static, and not public", Modifier.isStatic(c.getModifiers())
                    && !Modifier.isPublic(c.getModifiers()));
            one(c);
        }
    }

    private static void one(Class<?> c) {
        int fields = 0;
        for (Field f : c.getDeclaredFields()) {
            boolean fixed = Modifier.isStatic(f.getModifiers());
            fields += fixed ? 0 : 1;
            Check.yes(c + " " + f.getName() + " is final", !fixed || Modifier.isFinal(f.getModifiers()));
        }
        Check.yes(c + " has twenty fields at most", fields <= 20);
        for (Method m : c.getDeclaredMethods()) {
            Check.yes(m + " takes seven at most", m.getParameterCount() <= 7);
        }
    }

    private static void source() throws IOException {
        Check.part("the source");
        List<String> lines = Files.readAllLines(SOURCE);
        int open = 0;
        int begin = 0;
        for (int i = 0; i < lines.size(); i++) {
            String line = lines.get(i);
            boolean word = line.strip().startsWith("//") || line.strip().startsWith("*") || line.strip().startsWith("/*");
            for (String not : FORBIDDEN) {
                Check.yes("line " + (i + 1) + " without " + not, word || !line.contains(not));
            }
            Check.yes("line " + (i + 1) + " imports", !line.startsWith("import ")
                    || line.equals("import java.util.NoSuchElementException;"));
            Check.yes("line " + (i + 1) + " has no package", !line.startsWith("package "));
            Check.yes("line " + (i + 1) + " is of plain signs", line.chars().allMatch(c -> c >= 32 && c < 127));
            if (line.matches(" {4,8}\\S.*\\(.*\\).*\\{")) {
                begin = i;
                open = line.length() - line.stripLeading().length();
            }
            if (open > 0 && line.equals(" ".repeat(open) + "}")) {
                Check.yes("the method at line " + (begin + 1) + " is short", i - begin < 60);
                open = 0;
            }
        }
    }
}
