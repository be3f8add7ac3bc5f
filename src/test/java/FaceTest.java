import java.io.IOException;
import java.lang.reflect.Constructor;
import java.lang.reflect.Field;
import java.lang.reflect.Method;
import java.lang.reflect.Modifier;
import java.nio.charset.StandardCharsets;
import java.nio.file.Files;
import java.nio.file.Path;
import java.util.Arrays;
import java.util.HashSet;
import java.util.List;
import java.util.NoSuchElementException;
import java.util.Set;
import java.util.TreeSet;
import java.util.regex.Matcher;
import java.util.regex.Pattern;

/** The public face, and what of LANGUAGE.md can be seen from outside or from the source's own lines. */
public final class FaceTest {
    private static final String[] FACE = {"int sign(int)", "boolean end(int)", "int people()", "int rule()",
        "int one(int,int)", "int name(int,int)", "int sheet(int,int,int,int)", "int says(int,int)", "int signs(int,int)",
        "int moves(int,int)", "int calls(int)", "int days(int)", "int week()", "int undo()", "int brings(int,int)",
        "int later(int,int)", "int home(int)", "int poor(int)", "int leads(int)", "int rings()", "int robs(int)",
        "int order()", "int silences(int)", "int goes(int)", "int peace()", "int wed()", "int loud()", "int mouths()",
        "int criers(int)", "int line()", "int rich()", "int heard(int,int)", "int forget()", "int fits()", "int asks()",
        "int saw(int,int,int)", "int denies()", "int laws()", "int tries()", "int walks(int,int,int,int)",
        "int hush(int,int)", "int rests(int)", "int law()", "int years(int,int)", "boolean keep(int)",
        "boolean again(int)", "int count(int)", "long row(int)"};
    private static final String[] REFUSED = {"->", "::", "finally", "synchronized", "assert ", "catch", "try {", "record ",
        "static {", "double", "float", "getMessage", "Exact(", "while (true", "for (;;", "System.out", "Random",
        "currentTime", "nanoTime", "Thread", "toString", "hashCode", "package ", "import java.util.*", "abstract "};
    private static final int METHOD_LINES = 60;

    private static String said(Method m) {
        StringBuilder s = new StringBuilder(m.getReturnType().getSimpleName()).append(' ').append(m.getName()).append('(');
        for (int i = 0; i < m.getParameterCount(); i++) {
            s.append(i == 0 ? "" : ",").append(m.getParameterTypes()[i].getSimpleName());
        }
        return s.append(')').toString();
    }

    private static void face() {
        Class<?> of = NamesInMouths.class;
        Due.is("public and final", Modifier.isPublic(of.getModifiers()) && Modifier.isFinal(of.getModifiers()), true);
        Set<String> found = new TreeSet<>();
        for (Method m : of.getDeclaredMethods()) {
            if (!Modifier.isPrivate(m.getModifiers())) {
                found.add(said(m));
                Due.is(said(m) + " is public", Modifier.isPublic(m.getModifiers()) && !Modifier.isStatic(m.getModifiers()), true);
            }
        }
        for (String due : FACE) {
            Due.is(due + " is there", found.remove(due), true);
        }
        Due.is("no others: " + found, found.size(), 0);
        for (Constructor<?> c : of.getDeclaredConstructors()) {
            Due.is("one constructor, without parameters", Modifier.isPublic(c.getModifiers()) && c.getParameterCount() == 0, true);
        }
        for (Field f : of.getDeclaredFields()) {
            Due.is(f.getName() + " is private, but for NONE", Modifier.isPrivate(f.getModifiers()), !f.getName().equals("NONE"));
        }
        Due.is("NONE", NamesInMouths.NONE, -1);
    }

    /** The face once more, from the document's own lines: kinds of parameters, and what a call may throw. */
    private static void faceOfDocument(String doc) throws ReflectiveOperationException {
        Matcher line = Pattern.compile("(?m)^    public (int|boolean|long) (\\w+)\\(([^)]*)\\)( throws \\w+)?;$").matcher(doc);
        Set<String> told = new TreeSet<>();
        while (line.find()) {
            int parameters = line.group(3).isEmpty() ? 0 : line.group(3).split(",").length;
            Class<?>[] ints = new Class<?>[parameters];
            Arrays.fill(ints, int.class);
            Method m = NamesInMouths.class.getDeclaredMethod(line.group(2), ints);
            told.add(said(m));
            Due.is(said(m) + " answers " + line.group(1), m.getReturnType().getSimpleName().equals(line.group(1)), true);
            boolean throwing = m.getExceptionTypes().length == 1 && m.getExceptionTypes()[0] == NoSuchElementException.class;
            Due.is(said(m) + " says what it throws", throwing, line.group(4) != null);
        }
        Due.is("the document tells this face", told.equals(new TreeSet<>(Arrays.asList(FACE))), true);
    }

    private static void classesInside() {
        Set<String> names = new HashSet<>();
        for (String due : FACE) {
            names.add(due.substring(due.indexOf(' ') + 1, due.indexOf('(')));
        }
        Class<?>[] inside = NamesInMouths.class.getDeclaredClasses();
        Due.is("at most twelve classes", inside.length + 1 <= 12, true);
        for (Class<?> c : inside) {
            Due.is(c + " is private and static", Modifier.isPrivate(c.getModifiers()) && Modifier.isStatic(c.getModifiers()), true);
            privateNames(c, names);
            fields(c);
        }
        privateNames(NamesInMouths.class, names);
        fields(NamesInMouths.class);
    }

    private static void privateNames(Class<?> of, Set<String> face) {
        for (Method m : of.getDeclaredMethods()) {
            boolean ofFace = of == NamesInMouths.class && Modifier.isPublic(m.getModifiers());
            Due.is(of + " " + m.getName() + " bears no name of the face", !ofFace && face.contains(m.getName()), false);
            Due.is(m + " takes at most seven", m.getParameterCount() <= 7, true);
        }
    }

    private static void fields(Class<?> of) {
        int own = 0;
        for (Field f : of.getDeclaredFields()) {
            boolean fixed = Modifier.isStatic(f.getModifiers());
            own += fixed ? 0 : 1;
            Due.is(f + " is final if it is static", !fixed || Modifier.isFinal(f.getModifiers()), true);
        }
        Due.is(of + " has at most twenty fields", own <= 20, true);
    }

    private static void source(List<String> lines) {
        String all = String.join("\n", lines);
        String code = all.replaceAll("(?s)/\\*.*?\\*/", "").replaceAll("//[^\n]*", "");
        for (String refused : REFUSED) {
            Due.is("'" + refused + "' stands in the source", code.contains(refused), false);
        }
        Due.is("signs 1 to 127 alone", all.chars().allMatch(c -> c >= 1 && c <= 127), true);
        Matcher imports = Pattern.compile("import ([^;]+);").matcher(code);
        while (imports.find()) {
            boolean listed = Arrays.asList("java.util.NoSuchElementException", "java.util.Arrays", "java.util.ArrayList",
                "java.util.List").contains(imports.group(1));
            Due.is(imports.group(1) + " is listed", listed, true);
        }
        methodLines(lines);
        thingsMade(lines);
    }

    /** All calls of a run share one room: so things are made with the object alone, but for exceptions. */
    private static void thingsMade(List<String> lines) {
        Pattern ofField = Pattern.compile(" {4,8}(private final |private |final )[A-Z]?[A-Za-z]+(\\[])? \\w+ = new [^;]+;");
        for (String line : lines) {
            boolean makes = line.contains(" new ") && !line.contains("throw new NoSuchElementException();");
            Due.is("'" + line.trim() + "' makes something in a call", makes && !ofField.matcher(line).matches(), false);
        }
    }

    private static void methodLines(List<String> lines) {
        Pattern head = Pattern.compile("^( {4}| {8})[a-zA-Z][^=;]*\\)[^=;]*\\{$");
        for (int i = 0; i < lines.size(); i++) {
            Matcher m = head.matcher(lines.get(i));
            if (m.matches() && !lines.get(i).contains("class ")) {
                int end = lines.subList(i, lines.size()).indexOf(m.group(1) + "}");
                Due.is(lines.get(i).trim() + " is short", end >= 0 && end < METHOD_LINES, true);
            }
        }
    }

    public static void main(String[] args) throws IOException, ReflectiveOperationException {
        face();
        faceOfDocument(Files.readString(Path.of(System.getProperty("doc")), StandardCharsets.UTF_8));
        classesInside();
        source(Files.readAllLines(Path.of(System.getProperty("main.source")), StandardCharsets.ISO_8859_1));
        Due.ends();
    }
}
