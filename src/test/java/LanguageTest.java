import java.io.IOException;
import java.lang.reflect.Constructor;
import java.lang.reflect.Field;
import java.lang.reflect.Method;
import java.lang.reflect.Modifier;
import java.nio.file.Files;
import java.nio.file.Path;
import java.util.Set;
import java.util.TreeSet;
import java.util.regex.Matcher;
import java.util.regex.Pattern;

/** The public face, and those rules of the language that reflection or a text search can tell. */
public final class LanguageTest {
    private static final String[] FACE = {
        "int yard(int,int,int,int)", "int ofPlace(int,int)", "int paths(int,int)", "int heap(int,int)",
        "int drop(int,int)", "int topple(int)", "int settle()", "int day(int,int,int,int,int)",
        "int spill(int,int)", "int again(int,int)", "int burnt()", "long trees()", "int alike(int,int,int)",
        "int reading(int,int)", "int back(int)", "int kinds(int)", "int heapings(int)", "long odds(int)",
        "int sheet(int,int,int)", "int lose(int)", "int put(int,int,int)", "long cell(int,int,int)",
        "int copy(int,int,int,int,int)", "int tell(int)", "int strike(int)", "int as(int,int)", "int trace()",
        "int fault()", "int many(int)",
    };
    private static final String[] CONSTANTS = {
        "int UNKNOWN", "int OUTSIDE", "int STATE", "int FULL", "int NONE", "long LOST",
    };

    public static void main(String[] args) throws IOException {
        face();
        nested(namesOf(FACE));
        source(Files.readString(Path.of("src/main/java/ToppleYard.java")));
        Check.end("LanguageTest");
    }

    private static Set<String> namesOf(String[] signatures) {
        Set<String> names = new TreeSet<>();
        for (String s : signatures) {
            names.add(s.substring(s.indexOf(' ') + 1, s.indexOf('(')));
        }
        return names;
    }

    private static String signature(Method m) {
        StringBuilder sb = new StringBuilder(m.getReturnType().getName()).append(' ').append(m.getName()).append('(');
        for (int i = 0; i < m.getParameterCount(); i++) {
            sb.append(i == 0 ? "" : ",").append(m.getParameterTypes()[i].getName());
        }
        return sb.append(')').toString();
    }

    private static void face() {
        Class<?> c = ToppleYard.class;
        Check.due("public final", c.getModifiers() & (Modifier.PUBLIC | Modifier.FINAL), 1 | 16);
        Set<String> got = new TreeSet<>();
        for (Method m : c.getDeclaredMethods()) {
            if (!Modifier.isPrivate(m.getModifiers())) {
                got.add(signature(m));
                Check.due(m + " is public alone", m.getModifiers(), Modifier.PUBLIC);
            } else {
                Check.dueTrue(m + " has a name of its own", !namesOf(FACE).contains(m.getName()));
            }
        }
        Check.dueTrue("methods: " + got, got.equals(new TreeSet<>(Set.of(FACE))));
        Set<String> fields = new TreeSet<>();
        for (Field f : c.getDeclaredFields()) {
            if (!Modifier.isPrivate(f.getModifiers())) {
                fields.add(f.getType().getName() + " " + f.getName());
            }
            if (Modifier.isStatic(f.getModifiers())) {
                Check.dueTrue(f + " is final", Modifier.isFinal(f.getModifiers()));
            }
        }
        Check.dueTrue("constants: " + fields, fields.equals(new TreeSet<>(Set.of(CONSTANTS))));
        Constructor<?>[] made = c.getDeclaredConstructors();
        Check.due("constructors", made.length, 1);
        Check.due("it is public", made[0].getModifiers(), Modifier.PUBLIC);
        Check.due("it takes nothing", made[0].getParameterCount(), 0);
    }

    private static void nested(Set<String> taken) {
        Class<?>[] inside = ToppleYard.class.getDeclaredClasses();
        Check.dueTrue("at most twelve classes", inside.length + 1 <= 12);
        for (Class<?> c : inside) {
            Check.dueTrue(c + " is static", Modifier.isStatic(c.getModifiers()));
            Check.dueTrue(c + " is not public", !Modifier.isPublic(c.getModifiers()));
            Check.dueTrue(c + " holds no class", c.getDeclaredClasses().length == 0);
            int fields = 0;
            for (Field f : c.getDeclaredFields()) {
                fields += Modifier.isStatic(f.getModifiers()) ? 0 : 1;
            }
            Check.dueTrue(c + " has at most twenty fields", fields <= 20);
            for (Method m : c.getDeclaredMethods()) {
                Check.dueTrue(m + " takes at most seven", m.getParameterCount() <= 7);
                Check.dueTrue(m + " has a name of its own", !taken.contains(m.getName()));
            }
        }
    }

    private static void source(String whole) {
        Check.dueTrue("signs 1 to 127 alone", whole.chars().allMatch(c -> c > 0 && c < 128));
        String code = whole.replaceAll("(?s)/\\*.*?\\*/", "").replaceAll("//[^\\n]*", "");
        String[] banned = {"throw", "throws", "try", "catch", "finally", "synchronized", "assert", "package",
            "protected", "native", "volatile", "transient", "System\\.(?!arraycopy)", "\\w+Exact", "Object", "double",
            "float", "String", "Thread", "Runtime", "Class", "equals", "hashCode", "toString", "instanceof"};
        for (String word : banned) {
            Check.dueTrue("no " + word, !Pattern.compile("\\b" + word + (word.endsWith(")") ? "" : "\\b")).matcher(code).find());
        }
        Check.dueTrue("no lambda", !code.contains("->"));
        Check.dueTrue("no method reference", !code.contains("::"));
        Check.dueTrue("no static block", !Pattern.compile("static\\s*\\{").matcher(code).find());
        imports(code);
        made(code);
        lengths(whole);
    }

    private static void imports(String code) {
        Matcher m = Pattern.compile("import ([^;]*);").matcher(code);
        while (m.find()) {
            Check.dueTrue("import " + m.group(1), m.group(1).equals("java.util.Arrays"));
        }
    }

    /** Rows and objects are made as the object is, so that no number of calls fills the room. */
    private static void made(String code) {
        for (String line : code.split("\n")) {
            if (line.contains("new ")) {
                boolean field = line.matches(" +(private )?(final )?[A-Z]?\\w+(\\[\\])* \\w+ = new .*;");
                boolean early = line.trim().equals("sheets[k] = new Sheet();");
                Check.dueTrue("made early: " + line.trim(), field || early);
            }
        }
    }

    private static void lengths(String whole) {
        String[] lines = whole.split("\n");
        for (int from = 0; from < lines.length; from++) {
            if (lines[from].matches(" {4,8}[a-z][\\w\\[\\] ]* \\w+\\(.*\\) \\{")) {
                String end = lines[from].replaceAll("\\S.*", "") + "}";
                int to = from;
                while (to < lines.length && !lines[to].equals(end)) {
                    to++;
                }
                Check.dueTrue("at most sixty lines: " + lines[from].trim(), to - from < 60);
            }
        }
    }
}
