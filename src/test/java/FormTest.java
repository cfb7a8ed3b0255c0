import java.io.IOException;
import java.lang.reflect.Constructor;
import java.lang.reflect.Field;
import java.lang.reflect.Method;
import java.lang.reflect.Modifier;
import java.nio.file.Files;
import java.nio.file.Path;
import java.util.Arrays;
import java.util.List;
import java.util.Set;
import java.util.TreeSet;

/** The face of the document, and what LANGUAGE.md forbids as far as the source text shows it. */
public final class FormTest {
    private static final String FACE = "games() number(int) draft(int,int) clearDraft() make() negative(int)"
        + " options(int,int) option(int,int,int) depth(int) compare(int,int) isCold(int) value(int)"
        + " dominated(int,int,int) reversible(int,int,int) mean(int) temperature(int) wall(int,int,int)"
        + " corner(int,int,int) add(int) remove(int) components() component(int) move(int,int,int) size()"
        + " best(int) advice(int,int) play(int,int,int) played(int) type(int) clearText() fault() read()"
        + " write(int) written(int) undo() checksum()";
    private static final String[] FORBIDDEN = {"import ", "package ", "Exact(", "->", "::", "finally", "synchronized",
        "assert ", "static {", "catch", "try ", "getMessage", "hashCode", "toString", "System.out", "System.nano",
        "System.current", "Random", "float", "double", "lambda", "instanceof", "while (true)", "for (;;)", "Object"};
    private static final Check check = new Check("form");

    public static void main(String[] args) throws IOException {
        face();
        classes();
        List<String> lines = Files.readAllLines(Path.of("src/main/java/HotGames.java"));
        words(lines);
        lengths(lines);
        declarations(lines);
        check.end();
    }

    /** Every line of the document's face stands in the source, its exceptions in their order. */
    private static void declarations(List<String> lines) throws IOException {
        if (!Files.exists(Boundary.DOCUMENT)) {
            System.out.println("form: there is no " + Boundary.DOCUMENT + ", the declarations are not looked up");
            return;
        }
        String source = String.join(" ", lines).replaceAll("\\s+", " ");
        String document = Files.readString(Boundary.DOCUMENT);
        int found = 0;
        for (String line : document.split("```")[1].split("\n")) {
            String declared = line.strip();
            if (declared.startsWith("public ")) {
                boolean body = declared.endsWith(");") || declared.endsWith("Exception;");
                String due = body ? declared.substring(0, declared.length() - 1) + " {" : declared;
                check.is("the source has '" + due + "'", source.contains(due), true);
                found++;
            }
        }
        check.is("the class, its constant, its constructor and its calls", found, 3 + FACE.split(" ").length);
    }

    private static void face() {
        Set<String> due = new TreeSet<>(Arrays.asList(FACE.split(" ")));
        Set<String> found = new TreeSet<>();
        for (Method m : HotGames.class.getDeclaredMethods()) {
            if (!Modifier.isPrivate(m.getModifiers())) {
                String kinds = Arrays.toString(m.getParameterTypes()).replaceAll("[\\[\\] ]", "");
                found.add(m.getName() + "(" + kinds + ")");
                String result = m.getName().equals("isCold") ? "boolean" : m.getName().equals("checksum") ? "long" : "int";
                check.is("the type of " + m.getName(), m.getReturnType().getName(), result);
                check.is(m.getName() + " is public alone", m.getModifiers(), Modifier.PUBLIC);
            }
        }
        check.is("the face", found.toString(), due.toString());
        for (Field f : HotGames.class.getDeclaredFields()) {
            boolean constant = f.getName().equals("NONE");
            check.is("the field " + f.getName() + " is private", Modifier.isPrivate(f.getModifiers()), !constant);
            boolean fixed = !Modifier.isStatic(f.getModifiers()) || Modifier.isFinal(f.getModifiers());
            check.is("the field " + f.getName() + " is final if it is static", fixed, true);
        }
        Constructor<?>[] made = HotGames.class.getDeclaredConstructors();
        check.is("constructors", made.length, 1);
        check.is("the constructor is public", Modifier.isPublic(made[0].getModifiers()), true);
        check.is("the class", HotGames.class.getModifiers(), Modifier.PUBLIC | Modifier.FINAL);
    }

    private static void classes() {
        Set<String> open = new TreeSet<>();
        for (Method m : HotGames.class.getDeclaredMethods()) {
            if (Modifier.isPublic(m.getModifiers())) {
                open.add(m.getName());
            }
        }
        Class<?>[] inside = HotGames.class.getDeclaredClasses();
        check.is("at most twelve classes", inside.length < 12, true);
        for (Class<?> c : inside) {
            check.is(c.getName() + " is static", Modifier.isStatic(c.getModifiers()), true);
            check.is(c.getName() + " is not public", Modifier.isPublic(c.getModifiers()), false);
            int fields = 0;
            for (Field f : c.getDeclaredFields()) {
                fields += Modifier.isStatic(f.getModifiers()) ? 0 : 1;
            }
            check.is(c.getName() + " has at most twenty fields", fields <= 20, true);
            for (Method m : c.getDeclaredMethods()) {
                check.is(c.getName() + "." + m.getName() + " bears a public name", open.contains(m.getName()), false);
                check.is(m.getName() + " takes at most seven parameters", m.getParameterCount() <= 7, true);
            }
        }
    }

    private static void words(List<String> lines) {
        for (int i = 0; i < lines.size(); i++) {
            String code = lines.get(i).replaceAll("^\\s*(/\\*\\*|\\*|//).*", "").replaceAll("\"[^\"]*\"", "\"\"");
            for (String word : FORBIDDEN) {
                check.is("line " + (i + 1) + " has '" + word + "'", code.contains(word), false);
            }
            check.is("line " + (i + 1) + " is plain", lines.get(i).chars().allMatch(c -> c >= 32 && c < 127), true);
            check.is("line " + (i + 1) + " is short", lines.get(i).length() <= 120, true);
        }
    }

    /** A method ends at the brace that stands below its beginning. */
    private static void lengths(List<String> lines) {
        for (int i = 0; i < lines.size(); i++) {
            String line = lines.get(i);
            String indent = line.substring(0, line.length() - line.stripLeading().length());
            boolean method = (indent.length() == 4 || indent.length() == 8) && line.endsWith("{") && line.contains("(");
            int end = i;
            while (method && end < lines.size() && !lines.get(end).equals(indent + "}")) {
                end++;
            }
            check.is("the method at line " + (i + 1) + " is short", end - i <= 60, true);
        }
    }
}
