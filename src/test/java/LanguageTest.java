import java.io.IOException;
import java.lang.reflect.Constructor;
import java.lang.reflect.Field;
import java.lang.reflect.Method;
import java.lang.reflect.Modifier;
import java.nio.file.Files;
import java.nio.file.Path;
import java.util.Arrays;
import java.util.HashSet;
import java.util.Set;
import java.util.TreeSet;
import java.util.regex.Matcher;
import java.util.regex.Pattern;

/** The public face of the document, and what LANGUAGE.md rules out as far as words and members show it. */
public final class LanguageTest {
    private static final String[] FACE = {
        "menu/3", "line/5", "desk/2", "leaf/3", "clock/4", "asked/5", "change/4", "swap/3", "place/2", "lineOf/3",
        "ring/5", "call/1", "came/1", "pressed/1", "fewest/4", "trap/2",
        "group/6", "noGroups/0", "sum/1", "hung/1", "order/2", "arrange/1",
        "wish/3", "plan/3", "planned/2", "count/1",
    };
    private static final String[] RULED_OUT = {
        "throw", "throws", "try", "catch", "finally", "synchronized", "assert", "volatile", "native", "package", "protected",
        "Exact", "System", "Thread", "Random", "Object", "Class", "lambda", "var", "goto",
    };
    private static final Due d = new Due();

    public static void main(String[] args) throws IOException {
        face();
        members(SpokenMenus.class);
        Class<?>[] inside = SpokenMenus.class.getDeclaredClasses();
        d.holds("at most eleven classes inside", inside.length <= 11);
        for (Class<?> c : inside) {
            inside(c);
        }
        words(Files.readString(Path.of("src/main/java/SpokenMenus.java")));
        d.end();
    }

    private static void face() {
        int modifiers = SpokenMenus.class.getModifiers();
        d.holds("public and final", Modifier.isPublic(modifiers) && Modifier.isFinal(modifiers));
        Set<String> methods = new TreeSet<>();
        for (Method m : SpokenMenus.class.getDeclaredMethods()) {
            if (!Modifier.isPrivate(m.getModifiers())) {
                methods.add(m.getName() + "/" + m.getParameterCount());
                d.holds(m + " is public, of the object, and answers int",
                    m.getModifiers() == Modifier.PUBLIC && m.getReturnType() == int.class);
                for (Class<?> parameter : m.getParameterTypes()) {
                    d.holds(m + " takes int", parameter == int.class);
                }
            }
        }
        d.holds("the methods " + methods, methods.equals(new TreeSet<>(Arrays.asList(FACE))));
        Constructor<?>[] constructors = SpokenMenus.class.getDeclaredConstructors();
        d.holds("one public constructor", constructors.length == 1
            && constructors[0].getModifiers() == Modifier.PUBLIC && constructors[0].getParameterCount() == 0);
        Set<String> fields = new TreeSet<>();
        for (Field f : SpokenMenus.class.getDeclaredFields()) {
            if (!Modifier.isPrivate(f.getModifiers())) {
                fields.add(f.getName());
            }
        }
        d.holds("the constants " + fields, fields.equals(new TreeSet<>(Arrays.asList("BAD", "NO", "FULL", "NONE"))));
    }

    private static void inside(Class<?> c) {
        int modifiers = c.getModifiers();
        d.holds(c + " is static and private", Modifier.isStatic(modifiers) && Modifier.isPrivate(modifiers));
        d.due(c + " has no classes inside", c.getDeclaredClasses().length, 0);
        members(c);
    }

    private static void members(Class<?> c) {
        Set<String> publicNames = new HashSet<>();
        for (String name : FACE) {
            publicNames.add(name.substring(0, name.indexOf('/')));
        }
        int own = 0;
        for (Field f : c.getDeclaredFields()) {
            int modifiers = f.getModifiers();
            if (Modifier.isStatic(modifiers)) {
                d.holds(f + " is a final number", Modifier.isFinal(modifiers) && f.getType() == int.class);
            } else {
                own++;
            }
        }
        d.holds(c + " has at most twenty fields", own <= 20);
        for (Method m : c.getDeclaredMethods()) {
            d.holds(m + " takes at most seven", m.getParameterCount() <= 7);
            d.holds(m + " has a name of its own",
                Modifier.isPublic(m.getModifiers()) && c == SpokenMenus.class || !publicNames.contains(m.getName()));
        }
    }

    private static void words(String source) {
        String code = source.replaceAll("(?s)/\\*.*?\\*/", " ").replaceAll("//[^\n]*", " ");
        for (String word : RULED_OUT) {
            d.holds("without the word " + word, !Pattern.compile("\\b" + word + "\\b").matcher(code).find());
        }
        d.holds("without lambdas and method references", !code.contains("->") && !code.contains("::"));
        d.holds("without texts", !code.contains("\""));
        Matcher imports = Pattern.compile("import ([^;]*);").matcher(code);
        while (imports.find()) {
            d.holds("import " + imports.group(1), imports.group(1).equals("java.util.Arrays"));
        }
        Matcher arrays = Pattern.compile("Arrays\\.(\\w+)").matcher(code.replace("java.util.Arrays", ""));
        while (arrays.find()) {
            d.holds("Arrays." + arrays.group(1), arrays.group(1).equals("fill"));
        }
        Matcher loops = Pattern.compile("for \\(;|while \\(true|; ;").matcher(code);
        d.holds("no loop without an end", !loops.find());
    }
}
