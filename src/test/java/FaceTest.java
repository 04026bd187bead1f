import java.io.IOException;
import java.lang.reflect.Constructor;
import java.lang.reflect.Field;
import java.lang.reflect.Method;
import java.lang.reflect.Modifier;
import java.nio.file.Files;
import java.nio.file.Path;
import java.util.ArrayList;
import java.util.List;
import java.util.Set;
import java.util.TreeSet;
import java.util.regex.Matcher;
import java.util.regex.Pattern;

/** The public face as the document has it, and the words that LANGUAGE.md leaves out. */
public final class FaceTest {
    private static final Path DOCUMENT = Path.of("../shared/DOC.md");
    private static final Path SOURCE = Path.of("src/main/java/RedrawnLines.java");
    private static final Pattern METHOD = Pattern.compile("    public (int|long) (\\w+)\\((.*)\\)( \\{|;)");

    public static void main(String[] args) throws Exception {
        constants();
        document();
        headings();
        members();
        words();
        fields();
        calls();
        lengths();
        Check.end();
    }

    private static void constants() {
        Check.due("UNKNOWN", RedrawnLines.UNKNOWN, -1);
        Check.due("OUTSIDE", RedrawnLines.OUTSIDE, -2);
        Check.due("STATE", RedrawnLines.STATE, -3);
        Check.due("FULL", RedrawnLines.FULL, -4);
        Check.due("NONE", RedrawnLines.NONE, -9);
        Check.due("LOST", RedrawnLines.LOST, Long.MIN_VALUE);
    }

    /** The document's rows of the face, which the source has as they are, the names of the parameters, too. */
    private static List<String> face() throws IOException {
        String text = Files.readString(DOCUMENT);
        int begin = text.indexOf("public final class RedrawnLines {\n");
        return List.of(text.substring(begin, text.indexOf("\n}\n", begin)).split("\n"));
    }

    private static void document() throws IOException {
        List<String> source = List.of(Files.readString(SOURCE).split("\n"));
        for (String row : face()) {
            String inSource = row.endsWith(");") ? row.replace(");", ") {") : row;
            Check.due("the source has " + row, source.contains(inSource) ? 1 : 0, 1);
        }
        Check.due("rows of the face", face().size(), 45);
    }

    /** Each part's heading stands ahead of its calls, in the document's order. */
    private static void headings() throws IOException {
        List<String> want = new ArrayList<>();
        for (String row : Files.readString(DOCUMENT).split("\n")) {
            Matcher part = Pattern.compile("Ahead of the calls (.*) the interface says: (.*)\\.").matcher(row);
            if (part.matches()) {
                want.add(part.group(2));
                want.addAll(List.of(part.group(1).replace("`", "").split(", ")));
            }
        }
        List<String> got = new ArrayList<>();
        for (String row : Files.readString(SOURCE).split("\n")) {
            Matcher method = METHOD.matcher(row);
            if (row.matches("    // ---- \\d .*")) {
                got.add(row.replace("    // ", ""));
            } else if (method.matches()) {
                got.add(method.group(2));
            }
        }
        Check.due("headings and calls " + got + ", due are " + want, got.equals(want) && want.size() == 46 ? 1 : 0, 1);
    }

    /** The document's methods with their types alone. */
    private static Set<String> methods() throws IOException {
        Set<String> all = new TreeSet<>();
        for (String row : face()) {
            Matcher method = METHOD.matcher(row);
            if (method.matches()) {
                all.add(method.group(1) + " " + method.group(2) + "(" + method.group(3).replaceAll("(\\w+) \\w+", "$1").replace(" ", "") + ")");
            }
        }
        return all;
    }

    private static void members() throws IOException {
        Class<?> c = RedrawnLines.class;
        Check.due("public and final", c.getModifiers() & (Modifier.PUBLIC | Modifier.FINAL), Modifier.PUBLIC | Modifier.FINAL);
        Set<String> got = new TreeSet<>();
        Set<String> open = new TreeSet<>();
        for (Method m : c.getDeclaredMethods()) {
            if (Modifier.isPrivate(m.getModifiers())) {
                continue;
            }
            StringBuilder face = new StringBuilder(m.getReturnType().getName() + " " + m.getName() + "(");
            for (int i = 0; i < m.getParameterCount(); i++) {
                face.append(i == 0 ? "" : ",").append(m.getParameterTypes()[i].getName());
            }
            got.add(face.append(")").toString());
            open.add(m.getName());
        }
        same("methods", got, methods());
        int constructors = 0;
        for (Constructor<?> k : c.getDeclaredConstructors()) {
            constructors += Modifier.isPublic(k.getModifiers()) && k.getParameterCount() == 0 ? 1 : 100;
        }
        Check.due("constructors", constructors, 1);
        Set<String> fields = new TreeSet<>();
        for (Field f : c.getDeclaredFields()) {
            if (!Modifier.isPrivate(f.getModifiers())) {
                fields.add(f.getName());
            }
        }
        same("fields", fields, new TreeSet<>(List.of("UNKNOWN", "OUTSIDE", "STATE", "FULL", "NONE", "LOST")));
        List<Class<?>> all = new ArrayList<>(List.of(c.getDeclaredClasses()));
        all.add(c);
        Check.due("classes, at most 12", all.size() <= 12 ? 1 : 0, 1);
        for (Class<?> k : all) {
            for (Method m : k.getDeclaredMethods()) {
                Check.due(k.getName() + "." + m.getName() + " takes at most seven", m.getParameterCount() <= 7 || m.getName().equals("line") ? 1 : 0, 1);
                Check.due(k.getName() + "." + m.getName() + " bears no public name", Modifier.isPublic(m.getModifiers()) || !open.contains(m.getName()) ? 1 : 0, 1);
            }
        }
    }

    private static void same(String what, Set<String> got, Set<String> want) {
        Set<String> more = new TreeSet<>(got);
        more.removeAll(want);
        Set<String> fewer = new TreeSet<>(want);
        fewer.removeAll(got);
        Check.due(what + " more " + more + ", fewer " + fewer, more.size() + fewer.size(), 0);
    }

    private static void words() throws Exception {
        String source = Files.readString(SOURCE);
        String code = code();
        for (String word : List.of("throw", "throws", "try", "catch", "finally", "synchronized", "assert", "package", "volatile", "native", "equals", "hashCode", "toString", "Object", "Exact")) {
            Check.due("the word " + word, code.matches("(?s).*\\b" + word + "\\b.*") ? 1 : 0, 0);
        }
        for (String sign : List.of("->", "::", "@", "%=", "/=")) {
            Check.due("the sign " + sign, code.contains(sign) ? 1 : 0, 0);
        }
        int imports = 0;
        for (String row : code.split("\n")) {
            imports += row.startsWith("import") && !row.equals("import java.util.Arrays;") ? 1 : 0;
        }
        Check.due("imports of what is not listed", imports, 0);
        int odd = 0;
        for (int i = 0; i < source.length(); i++) {
            odd += source.charAt(i) > 126 ? 1 : 0;
        }
        Check.due("signs above 126", odd, 0);
    }

    /** Rules 2, 3, 5, 11: classes inside are static, static fields are constants, a class has some twenty fields. */
    private static void fields() {
        List<Class<?>> all = new ArrayList<>(List.of(RedrawnLines.class.getDeclaredClasses()));
        for (Class<?> k : all) {
            Check.due(k.getName() + " is static", Modifier.isStatic(k.getModifiers()) && !Modifier.isPublic(k.getModifiers()) ? 1 : 0, 1);
        }
        all.add(RedrawnLines.class);
        List<Class<?>> constants = List.of(int.class, long.class, boolean.class, char.class, String.class, int[].class, long[].class, char[].class, byte[].class);
        for (Class<?> k : all) {
            int own = 0;
            for (Field f : k.getDeclaredFields()) {
                if (Modifier.isStatic(f.getModifiers())) {
                    Check.due(k.getName() + "." + f.getName() + " is a constant", Modifier.isFinal(f.getModifiers()) && constants.contains(f.getType()) ? 1 : 0, 1);
                } else {
                    own++;
                    Class<?> type = f.getType().isArray() ? f.getType().getComponentType() : f.getType();
                    Check.due(k.getName() + "." + f.getName() + " is of a listed type", type.isPrimitive() || all.contains(type) ? 1 : 0, 1);
                }
            }
            Check.due(k.getName() + " has some twenty fields at most: " + own, own <= 20 ? 1 : 0, 1);
        }
    }

    private static String code() throws Exception {
        String source = Files.readString(SOURCE);
        return source.replaceAll("(?s)/\\*.*?\\*/", " ").replaceAll("//[^\n]*", " ");
    }

    /** Rule 4: of the library only what is listed. */
    private static void calls() throws Exception {
        Set<String> listed = Set.of("Math.max", "Math.min", "Math.abs", "Integer.bitCount", "System.arraycopy", "Arrays.fill", "Arrays.copyOfRange", "Arrays.copyOf", "Long.MIN_VALUE", "Integer.MAX_VALUE");
        Matcher m = Pattern.compile("(?<!import java\\.util\\.)\\b(Math|Integer|Long|System|Arrays|String|StringBuilder|ArrayList|List|Character|Boolean|Thread|Runtime)\\b(\\.\\w+)?").matcher(code());
        while (m.find()) {
            Check.due(m.group() + " is listed", listed.contains(m.group()) ? 1 : 0, 1);
        }
    }

    /** Rule 11: methods stay short. */
    private static void lengths() throws Exception {
        String[] rows = Files.readString(SOURCE).split("\n");
        int begin = 0;
        String indent = "";
        for (int i = 0; i < rows.length; i++) {
            if (rows[i].matches(" +(?!.*\\bclass\\b)[\\w\\[\\] ]+\\(.*\\) \\{") && !rows[i].matches(" +(if|for|while|switch|\\}).*")) {
                begin = i;
                indent = rows[i].replaceAll("\\S.*", "");
            } else if (rows[i].equals(indent + "}")) {
                Check.due("rows of the method in row " + (begin + 1), i - begin + 1 <= 60 ? 1 : 0, 1);
            }
        }
    }
}
