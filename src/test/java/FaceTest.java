import java.lang.reflect.Constructor;
import java.lang.reflect.Field;
import java.lang.reflect.Method;
import java.lang.reflect.Modifier;
import java.nio.file.Files;
import java.nio.file.Path;
import java.util.Arrays;
import java.util.List;
import java.util.Set;
import java.util.TreeSet;
import java.util.regex.Matcher;
import java.util.regex.Pattern;

/** The face as the document has it, and the rules of the language that a reader of the file can see. */
final class FaceTest {
    private static final Path SOURCE = Path.of("src/main/java/RopeDancers.java");
    private static final Path DOCUMENT = Path.of("../shared/DOC.md");

    private FaceTest() {
    }

    public static void main(String[] args) throws Exception {
        face();
        nested();
        source();
        Due.end("FaceTest");
    }

    private static void yes(String what, boolean so) {
        Due.due(what, so, true);
    }

    private static void face() throws Exception {
        Class<?> c = RopeDancers.class;
        yes("rule 1: public final", Modifier.isPublic(c.getModifiers()) && Modifier.isFinal(c.getModifiers()));
        Set<String> want = new TreeSet<>();
        Matcher m = Pattern.compile("^    public (int|long|boolean) (\\w+)\\(([^)]*)\\)", Pattern.MULTILINE)
            .matcher(Files.readString(DOCUMENT));
        while (m.find()) {
            StringBuilder types = new StringBuilder();
            for (String parameter : m.group(3).split(", ")) {
                types.append(parameter.isEmpty() ? "" : parameter.split(" ")[0] + " ");
            }
            want.add(m.group(1) + " " + m.group(2) + " " + types);
        }
        Set<String> got = new TreeSet<>();
        Set<String> names = new TreeSet<>();
        for (Method method : c.getDeclaredMethods()) {
            if (Modifier.isPrivate(method.getModifiers())) {
                continue;
            }
            yes("rule 1: public " + method, Modifier.isPublic(method.getModifiers()) && !Modifier.isStatic(method.getModifiers()));
            StringBuilder types = new StringBuilder();
            for (Class<?> type : method.getParameterTypes()) {
                types.append(type.getName()).append(' ');
            }
            got.add(method.getReturnType().getName() + " " + method.getName() + " " + types);
            names.add(method.getName());
        }
        yes("rule 1: the methods of the document: " + want + " and " + got, want.equals(got) && want.size() == 66);
        for (Method method : c.getDeclaredMethods()) {
            yes("rule 1: no private one named " + method.getName(),
                !Modifier.isPrivate(method.getModifiers()) || !names.contains(method.getName()));
            yes("rule 11: parameters of " + method.getName(), method.getParameterCount() <= 7);
        }
        Constructor<?>[] makers = c.getDeclaredConstructors();
        yes("rule 1: one constructor", makers.length == 1 && Modifier.isPublic(makers[0].getModifiers()) && makers[0].getParameterCount() == 0);
        yes("led tells what it throws", Arrays.equals(c.getMethod("led", int.class).getExceptionTypes(),
            new Class<?>[] {java.util.NoSuchElementException.class}));
        fields(c);
        yes("NONE is public", Modifier.isPublic(c.getField("NONE").getModifiers()));
    }

    private static void fields(Class<?> c) {
        int count = 0;
        for (Field field : c.getDeclaredFields()) {
            boolean constant = Modifier.isStatic(field.getModifiers());
            count += constant ? 0 : 1;
            yes("rule 5: a constant " + field, !constant || Modifier.isFinal(field.getModifiers()));
            yes("rule 1: private " + field, Modifier.isPrivate(field.getModifiers()) || field.getName().equals("NONE"));
        }
        yes("rule 11: fields of " + c.getName(), count <= 20);
    }

    private static void nested() {
        Class<?>[] all = RopeDancers.class.getDeclaredClasses();
        yes("rule 11: classes", all.length <= 11);
        Set<String> names = new TreeSet<>();
        for (Method method : RopeDancers.class.getDeclaredMethods()) {
            if (Modifier.isPublic(method.getModifiers())) {
                names.add(method.getName());
            }
        }
        for (Class<?> c : all) {
            yes("rule 1: static " + c, Modifier.isStatic(c.getModifiers()) && !Modifier.isPublic(c.getModifiers()));
            fields(c);
            for (Method method : c.getDeclaredMethods()) {
                yes("rule 1: no inner one named " + method.getName(), !names.contains(method.getName()));
                yes("rule 11: parameters of " + method.getName(), method.getParameterCount() <= 7);
                yes("rule 6: no " + method.getName(), !List.of("equals", "hashCode", "toString").contains(method.getName()));
            }
        }
    }

    private static void source() throws Exception {
        String text = Files.readString(SOURCE);
        yes("rule 3: plain signs", text.chars().allMatch(c -> c == '\n' || c >= 32 && c < 127));
        String code = text.replaceAll("/\\*(?s:.*?)\\*/", "").replaceAll("//[^\n]*", "").replaceAll("\"[^\"]*\"", "\"\"");
        for (String word : new String[] {"catch", "try", "finally", "synchronized", "assert", "instanceof", "float", "double", "volatile",
            "transient", "native", "System", "Thread", "Object", "Exact", "record", "package", "throws RuntimeException"}) {
            yes("rule 2 to 6: no " + word, !Pattern.compile("\\b" + word + "|" + word + "\\(").matcher(code).find());
        }
        yes("rule 2: no lambda", !code.contains("->") && !code.contains("::"));
        yes("one import", code.split("\nimport ").length + (code.startsWith("import ") ? 1 : 0) == 2
            && code.contains("import java.util.NoSuchElementException;"));
        yes("rule 6: one throw", code.split("throw new").length == 2);
        // rule 7: what divides is a number written out, or was tested
        Matcher m = Pattern.compile("[/%]=? (\\w+(\\.\\w+)?)").matcher(code);
        while (m.find()) {
            String by = m.group(1);
            yes("rule 7: by " + by, by.matches("[1-9]\\d*") || List.of("less", "k", "both", "nextUnder").contains(by));
        }
        // rule 11: methods of some sixty lines
        int begun = 0;
        String[] lines = text.split("\n");
        for (int i = 0; i < lines.length; i++) {
            if (lines[i].matches("( {4}| {8})[a-zA-Z][^;=]*\\(.*\\{")) {
                begun = i;
            }
            if (lines[i].matches("( {4}| {8})\\}")) {
                yes("rule 11: lines up to " + i, i - begun <= 60 || lines[i].matches(" {4}\\}"));
            }
        }
    }
}
