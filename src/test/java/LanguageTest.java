import java.io.IOException;
import java.lang.reflect.Constructor;
import java.lang.reflect.Field;
import java.lang.reflect.Method;
import java.lang.reflect.Modifier;
import java.nio.file.Files;
import java.nio.file.Path;
import java.util.Arrays;
import java.util.Set;
import java.util.TreeSet;
import java.util.regex.Matcher;
import java.util.regex.Pattern;

/** The rules of LANGUAGE.md that can be looked up: the face by reflection, the rest in the source's text. */
public final class LanguageTest {
    private static final Path SOURCE = Path.of("src/main/java/InquestHall.java");
    private static final String[] FACE = {
        "int days(int)", "int person(int,int,int,int,int)", "boolean dies(int,int)", "boolean marry(int,int)",
        "int of(int,int)", "boolean born(int,int,int)", "int land(int,int,int)", "boolean acre(int,int,int,int)",
        "int landOf(int,int)", "int reign(int)", "int feed(int,int,int,int,int)", "boolean end(int)", "int reads(int)",
        "int fault(int)", "int lawOn(int,int)", "int heirs(int,int)", "long share(int,int,int,int)",
        "long ward(int,int,int,int)", "int relief(int,int,int)", "int dower(int,int,int)",
        "int seize(int,int,int,int,int)", "int traverse(int)", "int seizing(int,int)", "int holder(int,int,int)",
        "boolean event(int,int)", "int memories(int)", "boolean forget(int)", "int proof(int,int)",
        "boolean proved(int)", "boolean find(int,int,int)", "boolean unsay(int,int)", "int quarrel(int)",
        "int chain(int,int)"};

    public static void main(String[] args) throws IOException {
        face();
        classes();
        text(Files.readString(SOURCE));
        Due.end();
    }

    private static String told(Method m) {
        StringBuilder text = new StringBuilder(m.getReturnType().getName()).append(' ').append(m.getName()).append('(');
        for (Class<?> type : m.getParameterTypes()) {
            text.append(text.charAt(text.length() - 1) == '(' ? "" : ",").append(type.getName());
        }
        return text.append(')').toString();
    }

    private static void face() {
        Set<String> open = new TreeSet<>();
        Set<String> openNames = new TreeSet<>();
        for (Method m : InquestHall.class.getDeclaredMethods()) {
            if (Modifier.isPublic(m.getModifiers())) {
                open.add(told(m));
                openNames.add(m.getName());
                Due.no("static " + m, Modifier.isStatic(m.getModifiers()));
            } else {
                Due.yes(m + " is private", Modifier.isPrivate(m.getModifiers()));
            }
        }
        Due.yes("the face: " + open, open.equals(new TreeSet<>(Arrays.asList(FACE))));
        for (Class<?> type : allClasses()) {
            for (Method m : type.getDeclaredMethods()) {
                boolean face = type == InquestHall.class && Modifier.isPublic(m.getModifiers());
                Due.yes(m + " has a name of its own", face || !openNames.contains(m.getName()));
                Due.yes(m + " takes at most seven", m.getParameterCount() <= 7);
            }
        }
        for (Field f : InquestHall.class.getDeclaredFields()) {
            Due.yes(f + " is private", f.getName().equals("NONE") || Modifier.isPrivate(f.getModifiers()));
        }
        Constructor<?>[] made = InquestHall.class.getDeclaredConstructors();
        Due.is("constructors", made.length, 1);
        Due.yes("public", Modifier.isPublic(made[0].getModifiers()) && made[0].getParameterCount() == 0);
        Due.yes("final", Modifier.isFinal(InquestHall.class.getModifiers()));
    }

    private static Class<?>[] allClasses() {
        Class<?>[] inside = InquestHall.class.getDeclaredClasses();
        Class<?>[] all = Arrays.copyOf(inside, inside.length + 1);
        all[inside.length] = InquestHall.class;
        return all;
    }

    private static void classes() {
        Due.yes("some twelve classes", allClasses().length <= 12);
        for (Class<?> type : allClasses()) {
            int fields = 0;
            for (Field f : type.getDeclaredFields()) {
                if (Modifier.isStatic(f.getModifiers())) {
                    Due.yes(f + " is final", Modifier.isFinal(f.getModifiers()));
                    Due.yes(f + " is a constant", f.getType().isPrimitive() || f.getType() == String.class);
                } else {
                    fields++;
                }
            }
            Due.yes(type + " has some twenty fields", fields <= 20);
            Due.is(type + " has classes inside", type == InquestHall.class ? 0 : type.getDeclaredClasses().length, 0);
            boolean isStatic = type == InquestHall.class || Modifier.isStatic(type.getModifiers());
            Due.yes(type + " is static", isStatic);
        }
    }

    private static void text(String source) {
        for (int i = 0; i < source.length(); i++) {
            if (source.charAt(i) > 126 || (source.charAt(i) < 32 && source.charAt(i) != '\n')) {
                Due.no("a strange sign at " + i, true);
            }
        }
        String bare = source.replaceAll("(?s)/\\*.*?\\*/", "").replaceAll("//[^\n]*", "");
        Matcher plus = Pattern.compile("\"\\s*\\+|\\+\\s*\"").matcher(bare);
        Due.no("texts joined by +", plus.find());
        bare = bare.replaceAll("\"[^\"\n]*\"", "\"\"");
        String[] banned = {"throw", "try", "catch", "throws", "synchronized", "assert", "package", "protected", "volatile",
            "transient", "native", "enum\\s+\\w+\\s*\\{[^}]*\\{", "Object", "System\\.(?!arraycopy)", "Exact", "Thread",
            "Random", "HashMap", "Map", "Set<", "import static", "new\\s+\\w+\\(\\)\\s*\\{"};
        for (String word : banned) {
            Due.no(word, Pattern.compile("\\b" + word + (word.matches("\\w+") ? "\\b" : "")).matcher(bare).find());
        }
        Due.no("a lambda or a method reference", bare.contains("->") || bare.contains("::"));
        Due.no("a static block", Pattern.compile("static\\s*\\{").matcher(bare).find());
        Due.no("a while without a counter", Pattern.compile("\\bwhile\\b|for\\s*\\(\\s*;").matcher(bare).find());
        Matcher imports = Pattern.compile("import ([\\w.*]+);").matcher(bare);
        while (imports.find()) {
            Due.yes(imports.group(1), imports.group(1).matches("java\\.util\\.(Arrays|ArrayList|List)"));
        }
        lengths(source.split("\n"));
    }

    /** A method begins with a line at its class's depth that ends with ") {", and ends with a } at that depth. */
    private static void lengths(String[] lines) {
        int from = -1;
        String depth = "";
        for (int i = 0; i < lines.length; i++) {
            Matcher head = Pattern.compile("^( {4}| {8})(?! )[\\w\\[\\] ]+\\([^;]*\\) \\{$").matcher(lines[i]);
            if (from < 0 && head.find() && !lines[i].trim().matches("(if|for|switch|while) .*")) {
                from = i;
                depth = head.group(1);
            } else if (from >= 0 && lines[i].equals(depth + "}")) {
                Due.yes(lines[from].trim() + " is short", i - from < 60);
                from = -1;
            }
        }
    }
}
