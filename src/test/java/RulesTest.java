import java.lang.reflect.Constructor;
import java.lang.reflect.Field;
import java.lang.reflect.Method;
import java.lang.reflect.Modifier;
import java.nio.charset.StandardCharsets;
import java.nio.file.Files;
import java.nio.file.Path;
import java.util.ArrayList;
import java.util.Arrays;
import java.util.HashSet;
import java.util.List;
import java.util.Set;
import java.util.TreeSet;
import java.util.regex.Matcher;
import java.util.regex.Pattern;

/** What can be seen of the rules of LANGUAGE.md in the source and in the compiled class. */
public final class RulesTest {
    private static final Teller T = new Teller();
    private static final String[] FACE = {
        "int feed(int,int,int,int,int)", "int end(int)", "int text(int,int)", "int fault(int)", "int cellar(int,int)",
        "int deed(int,int,int)", "int till(int,int)", "int state(int,int,int,int)", "int train(int,int)", "int laying(int,int)",
        "int life(int,int)", "int plan(int,int,int)", "int talk(int,int)", "int dinner(int,int)", "int wires(int,int,boolean)",
        "int duel(int,int,boolean)", "long hold(int,int,int,int,boolean)", "int fact(int,int,int)", "int fits(int,int,int)",
        "int drawn(int,int,int,int)", "int wit(int,int)", "int flat(int,int)", "int next(int,int)", "int half(int,int,boolean)",
        "int after(int,int,int)", "int odds(int,int,int,boolean)", "int shock(int,int,boolean)", "int count(int)",
        "boolean image(int)", "boolean again(int)"};

    public static void main(String[] args) throws Exception {
        face();
        classesInside();
        String source = Files.readString(Path.of("src/main/java/CorkedTalk.java"), StandardCharsets.ISO_8859_1);
        T.due("signs of the source are 1 to 127", true, source.chars().allMatch(c -> c > 0 && c < 128));
        String code = bare(source);
        words(code);
        library(code);
        methods(code);
        T.finish("RulesTest");
    }

    /** Rule 1. */
    private static void face() {
        Class<?> c = CorkedTalk.class;
        T.due("public and final", Modifier.PUBLIC | Modifier.FINAL, c.getModifiers());
        T.due("no package", true, c.getPackageName().isEmpty());
        Set<String> got = new TreeSet<>();
        Set<String> names = new HashSet<>();
        for (Method m : c.getDeclaredMethods()) {
            if (Modifier.isPublic(m.getModifiers())) {
                got.add(signature(m));
                names.add(m.getName());
                T.due(m.getName() + " is no more than public", Modifier.PUBLIC, m.getModifiers());
            } else {
                T.due(m.getName() + " is private", true, Modifier.isPrivate(m.getModifiers()) || m.isSynthetic());
            }
        }
        T.due("the face: " + got, true, got.equals(new TreeSet<>(Arrays.asList(FACE))));
        for (Class<?> each : all()) {
            for (Method m : each.getDeclaredMethods()) {
                boolean own = each == c && Modifier.isPublic(m.getModifiers());
                T.due("the face has its names alone: " + each.getSimpleName() + "." + m.getName(), false, !own && names.contains(m.getName()));
            }
        }
        for (Field f : c.getDeclaredFields()) {
            boolean none = f.getName().equals("NONE");
            T.due("field " + f.getName(), true, none ? Modifier.isPublic(f.getModifiers()) : Modifier.isPrivate(f.getModifiers()));
        }
        Constructor<?>[] made = c.getDeclaredConstructors();
        T.due("one constructor", 1, made.length);
        T.due("it is public and takes nothing", true, Modifier.isPublic(made[0].getModifiers()) && made[0].getParameterCount() == 0);
    }

    private static String signature(Method m) {
        StringBuilder b = new StringBuilder(m.getReturnType() + " " + m.getName() + "(");
        for (int i = 0; i < m.getParameterCount(); i++) {
            b.append(i > 0 ? "," : "").append(m.getParameterTypes()[i]);
        }
        return b.append(")").toString();
    }

    private static List<Class<?>> all() {
        List<Class<?>> all = new ArrayList<>(List.of(CorkedTalk.class));
        all.addAll(Arrays.asList(CorkedTalk.class.getDeclaredClasses()));
        return all;
    }

    /** Rules 2, 3, 5 and 11. */
    private static void classesInside() {
        Set<Class<?>> plain = Set.of(int.class, long.class, short.class, byte.class, char.class, boolean.class, String.class);
        Set<Class<?>> rows = Set.of(int[].class, long[].class, char[].class, byte[].class);
        T.due("at most twelve classes", true, all().size() <= 12);
        for (Class<?> each : all()) {
            String name = each.getSimpleName();
            if (each != CorkedTalk.class) {
                int m = each.getModifiers();
                T.due(name + " is static", true, Modifier.isStatic(m));
                T.due(name + " is not public or protected", false, Modifier.isPublic(m) || Modifier.isProtected(m));
                T.due(name + " has no classes", 0, each.getDeclaredClasses().length);
            }
            int fields = 0;
            for (Field f : each.getDeclaredFields()) {
                if (Modifier.isStatic(f.getModifiers())) {
                    T.due(name + "." + f.getName() + " is final", true, Modifier.isFinal(f.getModifiers()));
                    T.due(name + "." + f.getName() + " is a constant", true, plain.contains(f.getType()) || rows.contains(f.getType()));
                } else {
                    fields++;
                }
            }
            T.due(name + " has at most twenty fields: " + fields, true, fields <= 20);
            for (Method m : each.getDeclaredMethods()) {
                T.due(name + "." + m.getName() + " takes at most seven", true, m.getParameterCount() <= 7);
            }
        }
    }

    /** The code without its comments and the insides of its texts and signs. */
    private static String bare(String source) {
        Matcher m = Pattern.compile("/\\*.*?\\*/|//[^\n]*|\"(\\\\.|[^\"\\\\])*\"|'(\\\\.|[^'\\\\])*'", Pattern.DOTALL).matcher(source);
        return m.replaceAll(r -> {
            String s = r.group();
            String quiet = s.startsWith("\"") ? "\"\"" : s.startsWith("'") ? "'.'" : "";
            return Matcher.quoteReplacement(quiet + "\n".repeat((int) s.chars().filter(c -> c == '\n').count()));
        });
    }

    /** Rules 2, 6, 10 and 13. */
    private static void words(String code) {
        for (String word : new String[] {"throw", "throws", "try", "catch", "finally", "synchronized", "assert", "import", "package",
            "native", "volatile", "transient", "strictfp", "protected", "var", "yield", "goto", "System.nanoTime", "Thread",
            "hashCode", "toString", "Object"}) {
            T.due("no " + word, false, Pattern.compile("\\b" + Pattern.quote(word) + "\\b").matcher(code).find());
        }
        for (String sign : new String[] {"->", "::", "@", "\"\" +", "+ \"\""}) {
            T.due("no " + sign, false, code.contains(sign));
        }
        T.due("no static block", false, Pattern.compile("\\bstatic\\s*\\{").matcher(code).find());
    }

    /** Rule 4: of the library only what it lists. */
    private static void library(String code) {
        Set<String> allowed = Set.of("System.arraycopy", "Math.max", "Math.min", "Math.abs", "Integer.bitCount");
        Matcher m = Pattern.compile("\\b(System|Math|Integer|Long|Arrays|String|Character|Runtime|java)\\.(\\w+)").matcher(code);
        while (m.find()) {
            T.due(m.group() + " is of the library that may be used", true, allowed.contains(m.group()));
        }
    }

    /** Rule 11: methods stay short. */
    private static void methods(String code) {
        String[] lines = code.split("\n");
        Pattern head = Pattern.compile("^( {4}| {8})(?!\\s)[\\w\\[\\] ]+\\([^;]*\\) \\{$");
        int found = 0;
        for (int i = 0; i < lines.length; i++) {
            Matcher m = head.matcher(lines[i]);
            if (!m.find()) {
                continue;
            }
            found++;
            int last = i;
            while (last < lines.length && !lines[last].equals(m.group(1) + "}")) {
                last++;
            }
            T.due("a short method: " + lines[i].trim() + " has " + (last - i + 1), true, last - i + 1 <= 60);
        }
        T.due("methods were found", true, found > 100);
    }
}
