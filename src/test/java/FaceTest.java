import java.lang.reflect.Constructor;
import java.lang.reflect.Field;
import java.lang.reflect.Method;
import java.lang.reflect.Modifier;
import java.util.TreeSet;
import java.util.stream.Collectors;
import java.util.stream.Stream;

/** The public face is the document's, and has no member more. */
public final class FaceTest {
    private static final String[] METHODS = {
        "int put(int,int,int,int)", "boolean drop(int,int,int)", "int copy(int,int)", "int count(int)",
        "long line(int,int,int)", "int find(int,int)", "int longest(int,int)", "int least(int,int)",
        "int set(int,int,int)", "int spans(int)", "long span(int,int,int)", "long share(int,int)",
        "int same(int,int)", "long differ(int,int,int)", "int combine(int,int,int,int)",
        "int cover(int,int)", "long piece(int,int)", "int way(int,int)", "long step(int,int)",
        "int led(int,int)", "long nodes(int,int)", "int steps(int,int)",
    };

    public static void main(String[] args) {
        Due.is("NONE", PrefixLeader.NONE, -1);
        Due.is("NOWHERE", PrefixLeader.NOWHERE, 16);
        Due.is("public and final", PrefixLeader.class.getModifiers(), Modifier.PUBLIC | Modifier.FINAL);
        TreeSet<String> seen = new TreeSet<>();
        TreeSet<String> hidden = new TreeSet<>();
        for (Method method : PrefixLeader.class.getDeclaredMethods()) {
            if (Modifier.isPrivate(method.getModifiers())) {
                hidden.add(method.getName());
            } else {
                seen.add(told(method));
                Due.is(told(method) + " is public alone", method.getModifiers(), Modifier.PUBLIC);
            }
        }
        Due.is("the methods " + seen, seen.equals(new TreeSet<>(Stream.of(METHODS).toList())), true);
        for (Method method : PrefixLeader.class.getMethods()) {
            Due.is("a private " + method.getName(), hidden.contains(method.getName()), false);
        }
        fields();
        constructors();
        Due.end();
    }

    private static String told(Method method) {
        String types = Stream.of(method.getParameterTypes()).map(Class::getName).collect(Collectors.joining(","));
        return method.getReturnType().getName() + " " + method.getName() + "(" + types + ")";
    }

    private static void fields() {
        int constant = Modifier.PUBLIC | Modifier.STATIC | Modifier.FINAL;
        for (Field field : PrefixLeader.class.getDeclaredFields()) {
            String name = field.getName();
            if (name.equals("NONE") || name.equals("NOWHERE")) {
                Due.is(name + " is a constant", field.getModifiers(), constant);
                Due.is(name + " is an int", field.getType() == int.class, true);
            } else {
                Due.is(name + " is private", Modifier.isPrivate(field.getModifiers()), true);
            }
        }
    }

    private static void constructors() {
        Constructor<?>[] all = PrefixLeader.class.getDeclaredConstructors();
        Due.is("constructors", all.length, 1);
        Due.is("a constructor without parameters", all[0].getParameterCount(), 0);
        Due.is("it is public", all[0].getModifiers(), Modifier.PUBLIC);
    }
}
