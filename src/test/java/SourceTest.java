import java.io.IOException;
import java.lang.reflect.Field;
import java.lang.reflect.Method;
import java.lang.reflect.Modifier;
import java.nio.charset.StandardCharsets;
import java.nio.file.Files;
import java.nio.file.Path;
import java.util.ArrayList;
import java.util.Arrays;
import java.util.List;
import java.util.Set;
import java.util.TreeSet;
import java.util.regex.Matcher;
import java.util.regex.Pattern;

/** The document's public face, and rules of LANGUAGE.md that a reader of the source can see. */
public final class SourceTest {
    private static final Path SOURCE = Path.of("src/main/java/BingoHall.java");
    private static final Path DOCUMENT = Path.of("../shared/DOC.md");

    public static void main(String[] args) throws IOException {
        String source = Files.readString(SOURCE, StandardCharsets.ISO_8859_1);
        String code = withoutComments(source);
        face(Files.readString(DOCUMENT, StandardCharsets.UTF_8));
        insides();
        words(code);
        names(code);
        methods(code);
        Check.end();
    }

    private static void none(String rule, String found) {
        if (found != null) {
            System.out.println(rule + ": " + found);
        }
        Check.due(rule, found == null ? 0 : 1, 0);
    }

    private static String withoutComments(String source) {
        String code = source.replaceAll("(?s)/\\*.*?\\*/", " ").replaceAll("//[^\n]*", " ");
        return code.replaceAll("\"[^\"]*\"", "\"\"");
    }

    private static void face(String document) {
        Set<String> due = new TreeSet<>();
        Matcher lines = Pattern.compile("(?m)^    public (int|long) (\\w+)\\(([^)]*)\\);").matcher(document);
        while (lines.find()) {
            due.add(lines.group(1) + " " + lines.group(2) + " " + lines.group(3).replaceAll(" \\w+(,|$)", "$1"));
        }
        Set<String> found = new TreeSet<>();
        for (Method method : BingoHall.class.getDeclaredMethods()) {
            int flags = method.getModifiers();
            if (!Modifier.isPrivate(flags) && !method.isSynthetic()) {
                String types = Arrays.toString(method.getParameterTypes()).replaceAll("[\\[\\]]", "");
                found.add(method.getReturnType() + " " + method.getName() + " " + types);
                Check.due("public " + method, Modifier.isPublic(flags) ? 1 : 0, 1);
            }
        }
        Check.due("methods of the face", due.size() >= 55 ? 1 : 0, 1);
        none("face", due.equals(found) ? null : "due " + due + ", found " + found);
        Check.due("constructors", BingoHall.class.getDeclaredConstructors().length, 1);
        Check.due("final", Modifier.isFinal(BingoHall.class.getModifiers()) ? 1 : 0, 1);
    }

    private static void insides() {
        fields(BingoHall.class);
        Class<?>[] inside = BingoHall.class.getDeclaredClasses();
        Check.due("classes " + inside.length, inside.length <= 11 ? 1 : 0, 1);
        for (Class<?> it : inside) {
            fields(it);
            Check.due("static " + it, Modifier.isStatic(it.getModifiers()) ? 1 : 0, 1);
            Check.due("not open " + it, it.getModifiers() & (Modifier.PUBLIC | Modifier.PROTECTED), 0);
        }
    }

    private static void fields(Class<?> it) {
        int own = 0;
        for (Field field : it.getDeclaredFields()) {
            int flags = field.getModifiers();
            if (Modifier.isStatic(flags)) {
                Check.due("final " + field, Modifier.isFinal(flags) ? 1 : 0, 1);
            } else {
                own++;
            }
            boolean isPublic = Modifier.isPublic(flags);
            Check.due("field " + field, isPublic ? 1 : 0, field.getName().equals("NONE") && it == BingoHall.class ? 1 : 0);
        }
        Check.due("fields of " + it + " " + own, own <= 20 ? 1 : 0, 1);
    }

    private static void words(String code) {
        String[] refused = {
            "\\b(throw|throws|try|catch|synchronized|assert|volatile|transient|native|var|yield)\\b", "->", "::",
            "\\binstanceof\\b", "\\b(System)\\.(?!arraycopy)", "\\bMath\\.\\w*(Exact|random|sqrt|pow)\\b",
            "\\b(HashMap|Map|Set|Random|Thread|Object|Class|Scanner|Stream|Optional)\\b", "\\.(hashCode|toString|equals)\\(",
            "\\bpackage\\b", "@\\w+", "[^\\x01-\\x7e]", "\t",
        };
        for (String pattern : refused) {
            Matcher found = Pattern.compile(pattern).matcher(code);
            none("refused " + pattern, found.find() ? found.group() : null);
        }
        Matcher imports = Pattern.compile("import ([\\w.]+);").matcher(code);
        while (imports.find()) {
            none("import", imports.group(1).matches("java\\.util\\.(Arrays|ArrayList|List|Iterator)") ? null : imports.group(1));
        }
        Matcher joined = Pattern.compile("\"\"\\s*\\+|\\+\\s*\"\"").matcher(code);
        none("joined texts", joined.find() ? joined.group() : null);
    }

    /** No private method bears the name of a public one. */
    private static void names(String code) {
        Set<String> open = new TreeSet<>();
        Matcher faces = Pattern.compile("\\bpublic \\w+ (\\w+)\\(").matcher(code);
        while (faces.find()) {
            open.add(faces.group(1));
        }
        Check.due("public methods", open.size(), 55);
        Matcher hidden = Pattern.compile("\\bprivate (?:static )?[\\w\\[\\]]+ (\\w+)\\(").matcher(code);
        while (hidden.find()) {
            none("name", open.contains(hidden.group(1)) ? hidden.group(1) : null);
        }
    }

    /** Methods are short, and take at most seven parameters. */
    private static void methods(String code) {
        List<String> lines = new ArrayList<>(Arrays.asList(code.split("\n")));
        int from = -1;
        String indent = "";
        Pattern head = Pattern.compile("^( +)(?:public|private) (?!static final class|final class)[^=;]*\\((.*)\\) \\{$");
        for (int i = 0; i < lines.size(); i++) {
            Matcher found = head.matcher(lines.get(i));
            if (found.find()) {
                from = i;
                indent = found.group(1);
                int parameters = found.group(2).isEmpty() ? 0 : found.group(2).split(",").length;
                none("parameters", parameters <= 7 ? null : lines.get(i));
            } else if (from >= 0 && lines.get(i).equals(indent + "}")) {
                none("length", i - from <= 45 ? null : lines.get(from));
                from = -1;
            }
            none("width", lines.get(i).length() <= 130 ? null : lines.get(i));
        }
    }
}
