import java.io.File;
import java.io.IOException;
import java.lang.reflect.InvocationTargetException;
import java.lang.reflect.Method;
import java.lang.reflect.Modifier;
import java.util.ArrayList;
import java.util.List;
import java.util.regex.Matcher;
import java.util.regex.Pattern;

/** What README.md says is so: its calls answer what stands behind them, and no call and no test is left out. */
public final class ReadmeTest {
    private static final Pattern CALL = Pattern.compile("inn\\.(\\w+)\\((.*)\\); *(?:// (throws )?(-?\\w+).*)?");

    public static void main(String[] args) throws IOException {
        String page = Due.fileOfProject("README.md");
        calls(page);
        everyCall(page);
        everyTest(page);
        Due.close();
    }

    private static void calls(String page) {
        int begin = page.indexOf("```java") + "```java".length();
        InnNight inn = null;
        int answered = 0;
        for (String line : page.substring(begin, page.indexOf("```", begin)).trim().split("\n")) {
            if (line.equals("InnNight inn = new InnNight();")) {
                inn = new InnNight();
                continue;
            }
            Matcher call = CALL.matcher(line);
            Due.due("can be read: " + line, call.matches(), true);
            if (call.matches()) {
                String want = call.group(4) == null ? "null" : call.group(4);
                String got = answer(inn, call.group(1), call.group(2));
                Due.due(line + " (" + got + ") is so", got.equals(want), true);
                answered++;
            }
        }
        Due.due("calls are told", answered > 30, true);
    }

    private static String answer(InnNight inn, String name, String with) {
        for (Method method : InnNight.class.getMethods()) {
            if (method.getName().equals(name) && method.getDeclaringClass() == InnNight.class) {
                try {
                    return String.valueOf(method.invoke(inn, arguments(with)));
                } catch (InvocationTargetException thrown) {
                    return thrown.getCause().getClass().getSimpleName();
                } catch (IllegalAccessException | IllegalArgumentException wrong) {
                    return "no such call";
                }
            }
        }
        return "no such name";
    }

    private static Object[] arguments(String with) {
        List<Object> all = new ArrayList<>();
        for (String one : with.isEmpty() ? new String[0] : with.split(", ")) {
            boolean isWord = one.equals("true") || one.equals("false");
            all.add(isWord ? (Object) Boolean.valueOf(one) : (Object) Integer.decode(one));
        }
        return all.toArray();
    }

    private static void everyCall(String page) {
        for (Method method : InnNight.class.getDeclaredMethods()) {
            if (Modifier.isPublic(method.getModifiers())) {
                String name = method.getName();
                boolean told = Pattern.compile("(?m)^\\| .*`" + name + "`").matcher(page).find();
                Due.due("the table has " + name, told, true);
            }
        }
    }

    private static void everyTest(String page) {
        String[] files = new File(Due.project(), "src/test/java").list();
        int tests = 0;
        for (String file : files == null ? new String[0] : files) {
            if (file.endsWith("Test.java")) {
                tests++;
                String name = file.substring(0, file.length() - ".java".length());
                boolean told = Pattern.compile("(?m)^- .*`" + name + "`").matcher(page).find();
                Due.due("a line tells of " + file, told, true);
            }
        }
        Matcher told = Pattern.compile("`(\\w+Test)`").matcher(page);
        while (told.find()) {
            boolean is = new File(Due.project(), "src/test/java/" + told.group(1) + ".java").isFile();
            Due.due("there is a test " + told.group(1), is, true);
        }
        Due.due("tests were found", tests > 0, true);
    }
}
