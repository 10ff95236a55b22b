import java.lang.reflect.Method;
import java.nio.charset.StandardCharsets;
import java.nio.file.Files;
import java.nio.file.Path;
import java.util.HashSet;
import java.util.Set;
import java.util.regex.Matcher;
import java.util.regex.Pattern;

/** The texts and answers that README.md shows. */
public final class ReadmeTest {
    private static final Teller T = new Teller();
    private static final Pattern FED = Pattern.compile("x\\.feed\\((.*)\\); *// \"(.*)\"");
    private static final Pattern ROW = Pattern.compile("(?m)^\\| `x\\.(\\w+)\\((.*)\\)` \\| (\\S+) \\|");

    public static void main(String[] args) throws Exception {
        String page = Files.readString(Path.of("README.md"), StandardCharsets.UTF_8);
        telling(page);
        asking(page);
        T.finish("ReadmeTest");
    }

    private static void telling(String page) {
        Matcher fed = FED.matcher(page);
        T.due("README.md feeds", true, fed.find());
        String[] numbers = fed.group(1).split(", ");
        byte[] bytes = Teller.bytes(fed.group(2));
        T.due("bytes fed", 20, bytes.length);
        for (int i = 0; i < 5; i++) {
            int number = 0;
            for (int b = 0; b < 4; b++) {
                number = number << 8 | bytes[4 * i + b] & 255;
            }
            T.due("number " + i + " of feed", number, Long.parseLong(numbers[i]));
        }
        CorkedTalk x = new CorkedTalk();
        Teller.tape(x, bytes, 0);
        T.due("end(10)", 10, x.end(10));
        T.due("text(1, NONE)", 0, x.text(1, CorkedTalk.NONE));
        T.due("deed(0, NONE, 0)", 2, x.deed(0, CorkedTalk.NONE, 0));
    }

    private static void asking(String page) throws Exception {
        CorkedTalk x = Teller.told(block(page, "cellar"), block(page, "years"), block(page, "log"));
        Set<String> shown = new HashSet<>();
        Matcher row = ROW.matcher(page);
        while (row.find()) {
            shown.add(row.group(1));
            T.due(row.group(1) + "(" + row.group(2) + ")", number(row.group(3)), answer(x, row.group(1), row.group(2).split(", ")));
        }
        for (Method m : CorkedTalk.class.getMethods()) {
            boolean own = m.getDeclaringClass() == CorkedTalk.class;
            boolean told = Set.of("feed", "end", "text").contains(m.getName());
            T.due("README.md shows " + m.getName(), own && !told, shown.contains(m.getName()));
        }
    }

    private static String block(String page, String name) {
        Matcher m = Pattern.compile("(?s)```" + name + "\n(.*?)```").matcher(page);
        T.due("README.md has a block " + name, true, m.find());
        return m.group(1);
    }

    private static long number(String text) {
        switch (text) {
            case "true": return 1;
            case "false": return 0;
            case "NONE": return CorkedTalk.NONE;
            default: return Long.parseLong(text);
        }
    }

    private static long answer(CorkedTalk x, String name, String[] arguments) throws Exception {
        for (Method m : CorkedTalk.class.getMethods()) {
            if (m.getDeclaringClass() == CorkedTalk.class && m.getName().equals(name)) {
                Class<?>[] types = m.getParameterTypes();
                T.due("arguments of " + name, types.length, arguments.length);
                Object[] values = new Object[types.length];
                for (int i = 0; i < types.length; i++) {
                    values[i] = types[i] == boolean.class ? (Object) (number(arguments[i]) == 1) : (Object) (int) number(arguments[i]);
                }
                return number(String.valueOf(m.invoke(x, values)));
            }
        }
        throw new IllegalStateException("no such call: " + name);
    }
}
