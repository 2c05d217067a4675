import java.lang.reflect.Constructor;
import java.lang.reflect.Field;
import java.lang.reflect.Method;
import java.lang.reflect.Modifier;
import java.util.Arrays;
import java.util.TreeSet;

/** The public face: just what the document has, and nothing else that is not private. */
public final class FaceTest {
    private static final String[] METHODS = {
        "int feed(int,int,int,int,int)", "boolean end(int)", "int guest()", "int memory()", "int fault()",
        "int about(int,int)", "boolean strike(int,boolean)", "int pair(int,int)", "int quarrel(int)",
        "int quarrels(int)", "boolean can()", "int moments()", "int moment(int)", "int lay(int)",
        "int stays(int,boolean)", "int knot()", "int ring()", "int three(int)", "int small()", "int check(int)",
        "long count()", "int node(int,int)", "boolean between(int,int,int)", "int opens()", "int choose(boolean)",
        "int ask()", "void stay(int,int,int)", "int judge(int)", "int lies(int)", "int leave(int)", "int kind()",
        "int claw(int)", "boolean round()", "boolean twice(int)", "int room(int)", "int rooms()", "long obey()",
        "int span(int,boolean)", "int must(int,int)", "int list(int)", "int listed(int)", "void image()",
        "boolean back()", "int sum(int)"};

    public static void main(String[] args) {
        TreeSet<String> found = new TreeSet<>();
        TreeSet<String> publicNames = new TreeSet<>();
        for (Method method : InnNight.class.getDeclaredMethods()) {
            if (!Modifier.isPrivate(method.getModifiers())) {
                found.add(told(method));
                publicNames.add(method.getName());
                Due.due(method.getName() + " is public", Modifier.isPublic(method.getModifiers()), true);
            }
        }
        TreeSet<String> want = new TreeSet<>(Arrays.asList(METHODS));
        Due.due("the methods " + found, found.equals(want), true);
        for (Field field : InnNight.class.getDeclaredFields()) {
            boolean isNone = field.getName().equals("NONE");
            Due.due(field.getName() + " is public", !Modifier.isPrivate(field.getModifiers()), isNone);
        }
        for (Constructor<?> constructor : InnNight.class.getDeclaredConstructors()) {
            Due.due("the constructor's parameters", constructor.getParameterCount(), 0);
        }
        Due.due("a final class", Modifier.isFinal(InnNight.class.getModifiers()), true);
        privateNames(InnNight.class, publicNames);
        for (Class<?> inside : InnNight.class.getDeclaredClasses()) {
            Due.due(inside.getName() + " is static", Modifier.isStatic(inside.getModifiers()), true);
            Due.due(inside.getName() + " is not public", Modifier.isPublic(inside.getModifiers()), false);
            privateNames(inside, publicNames);
        }
        Due.due("some twelve classes", InnNight.class.getDeclaredClasses().length < 12, true);
        Due.close();
    }

    private static String told(Method method) {
        StringBuilder text = new StringBuilder(method.getReturnType() + " " + method.getName() + "(");
        for (Class<?> parameter : method.getParameterTypes()) {
            text.append(text.charAt(text.length() - 1) == '(' ? "" : ",").append(parameter);
        }
        return text.append(")").toString();
    }

    private static void privateNames(Class<?> where, TreeSet<String> publicNames) {
        int fields = 0;
        for (Method method : where.getDeclaredMethods()) {
            boolean ofTheFace = where == InnNight.class && Modifier.isPublic(method.getModifiers());
            Due.due(where + "." + method.getName() + " bears a name of the face",
                    !ofTheFace && publicNames.contains(method.getName()), false);
            Due.due(method.getName() + " has at most seven parameters", method.getParameterCount() <= 7, true);
        }
        for (Field field : where.getDeclaredFields()) {
            fields += Modifier.isStatic(field.getModifiers()) ? 0 : 1;
        }
        Due.due(where + " has some twenty fields", fields <= 20, true);
    }
}
