import java.io.IOException;
import java.lang.reflect.InvocationTargetException;
import java.lang.reflect.Method;
import java.lang.reflect.Modifier;
import java.nio.charset.StandardCharsets;
import java.nio.file.Files;
import java.nio.file.Path;
import java.nio.file.Paths;
import java.util.ArrayList;
import java.util.List;
import java.util.NoSuchElementException;
import java.util.regex.Matcher;
import java.util.regex.Pattern;

/** What README.md says of the class: every call in its Java lines answers as it stands there, and none is left out. */
public final class ReadmeTest {
    private static final Path README = Paths.get("README.md");
    private static final Path SELF = Paths.get("src", "test", "java", "ReadmeTest.java");
    private static final Pattern MAKE = Pattern.compile("(?:FirstChimney )?x = new FirstChimney\\(\\);");
    private static final Pattern TELL = Pattern.compile("tell\\(x, \"(.*)\"\\);");
    private static final Pattern CALL = Pattern.compile("x\\.(\\w+)\\((.*?)\\);\\s+// (\\w+|-\\d+)(?::.*)?");

    private static FirstChimney x = null;
    private static int wrong = 0;
    private static int asked = 0;

    public static void main(String[] args) throws IOException {
        List<String> lines = Files.readAllLines(README, StandardCharsets.UTF_8);
        for (List<String> block : javaBlocks(lines)) {
            if (block.get(0).startsWith("static void tell(")) {
                isTheTellOfThisTest(block);
            } else {
                for (String line : block) {
                    runLine(line);
                }
            }
        }
        everyCallIsListed(String.join("\n", lines));
        System.out.println(wrong == 0 ? "all " + asked + " lines are as they stand" : wrong + " lines are not");
        if (wrong != 0) {
            System.exit(1);
        }
    }

    static void tell(FirstChimney x, String text) {
        for (int from = 0; from < text.length(); from += 24) {
            long[] parts = new long[3];
            for (int i = 0; i < 24; i++) {
                int sign = from + i < text.length() ? text.charAt(from + i) : 0;
                parts[i / 8] = parts[i / 8] << 8 | sign;
            }
            x.feed(parts[0], parts[1], parts[2]);
        }
    }

    private static void say(String what) {
        wrong++;
        System.out.println(what);
    }

    private static List<List<String>> javaBlocks(List<String> lines) {
        List<List<String>> blocks = new ArrayList<>();
        List<String> block = null;
        for (String line : lines) {
            if (line.equals("```java")) {
                block = new ArrayList<>();
            } else if (line.equals("```") && block != null) {
                blocks.add(block);
                block = null;
            } else if (block != null) {
                block.add(line);
            }
        }
        return blocks;
    }

    /** The README's way of telling a text is the one by which its lines are run here. */
    private static void isTheTellOfThisTest(List<String> block) throws IOException {
        asked++;
        String self = new String(Files.readAllBytes(SELF), StandardCharsets.UTF_8);
        if (!plain(self).contains(plain(String.join("\n", block)))) {
            say("tell is another one than this test's");
        }
    }

    private static String plain(String text) {
        return text.replaceAll("\\s+", " ").trim();
    }

    private static void runLine(String line) {
        Matcher tell = TELL.matcher(line);
        Matcher call = CALL.matcher(line);
        asked++;
        if (MAKE.matcher(line).matches()) {
            x = new FirstChimney();
        } else if (tell.matches()) {
            tell(x, tell.group(1));
        } else if (call.matches()) {
            String got = answer(call.group(1), call.group(2));
            if (!got.equals(call.group(3))) {
                say(line + "  answered " + got);
            }
        } else {
            say("this line is not understood: " + line);
        }
    }

    private static String answer(String name, String written) {
        String[] args = written.isEmpty() ? new String[0] : written.split(", ");
        for (Method method : FirstChimney.class.getDeclaredMethods()) {
            if (!isOfTheFace(method) || !method.getName().equals(name) || method.getParameterCount() != args.length) {
                continue;
            }
            Object[] values = new Object[args.length];
            for (int i = 0; i < args.length; i++) {
                values[i] = valueOf(args[i], method.getParameterTypes()[i]);
            }
            try {
                Object got = method.invoke(x, values);
                return got.equals(FirstChimney.NONE) ? "NONE" : got.toString();
            } catch (InvocationTargetException e) {
                return e.getCause() instanceof NoSuchElementException ? "NoSuchElementException" : "" + e.getCause();
            } catch (IllegalAccessException e) {
                return e.toString();
            }
        }
        return "no such call";
    }

    private static Object valueOf(String written, Class<?> type) {
        if (type == boolean.class) {
            return Boolean.valueOf(written);
        }
        return type == long.class ? (Object) Long.valueOf(written) : (Object) Integer.valueOf(written);
    }

    private static boolean isOfTheFace(Method method) {
        return Modifier.isPublic(method.getModifiers());
    }

    private static void everyCallIsListed(String text) {
        for (Method method : FirstChimney.class.getDeclaredMethods()) {
            if (isOfTheFace(method)) {
                asked++;
                Matcher listed = Pattern.compile("\\| `" + method.getName() + "\\(([a-z, ]*)\\)` \\|").matcher(text);
                if (!listed.find()) {
                    say(method.getName() + " is not listed");
                } else if (parametersIn(listed.group(1)) != method.getParameterCount()) {
                    say(method.getName() + " is listed with other parameters");
                }
            }
        }
    }

    private static int parametersIn(String list) {
        return list.isEmpty() ? 0 : list.split(", ").length;
    }
}
