import java.lang.reflect.Constructor;
import java.lang.reflect.Field;
import java.lang.reflect.Method;
import java.lang.reflect.Modifier;
import java.util.Arrays;
import java.util.HashSet;
import java.util.Set;
import java.util.TreeSet;

/** The public face is the document's, and nothing else of the class can be seen (LANGUAGE.md, rules 1 and 5). */
public final class FaceTest {

    private static final String[] FACE = {
        "int shop(int)", "int stone(int,int)", "int lying(int,int)", "int weighs(int,int)", "int may(int,int)",
        "int ways(int,int)", "int first(int,int)", "int lifts(int,int,int)", "int reach(int)", "int hole(int)",
        "int list(int,int)", "int cheapest(int,int,int,int)", "int threes(int,int)", "int doubles(int,int)",
        "int digits(int,int)", "int added(int,int)", "int sets(int,int,int,int)", "int lost(int,int)",
        "int harmsLeast(int)", "int trials(int)", "int found(int)", "int twice(int,int,int)",
        "int customers(int,int,int)", "int unknown(int,int,int)", "int seeded(int,int,int)", "int judge(int,int)",
        "int image()", "int restore()", "int count(int)", "int keep(int,int,int,int)", "int row(int,int,int)",
        "int put(int,int,int)", "long element(int,int)", "int copy(int,int,int,int,int)", "int cost(int)",
        "int toss(int)",
    };

    private static final Checks CHECKS = new Checks("face");

    public static void main(String[] args) {
        Class<?> face = FourStones.class;
        CHECKS.holds("public and final", Modifier.isPublic(face.getModifiers()) && Modifier.isFinal(face.getModifiers()));
        methods(face);
        for (Constructor<?> constructor : face.getDeclaredConstructors()) {
            CHECKS.due("arguments of a constructor", constructor.getParameterCount(), 0);
        }
        fields(face);
        for (Class<?> inside : face.getDeclaredClasses()) {
            int modifiers = inside.getModifiers();
            CHECKS.holds(inside + " is static", Modifier.isStatic(modifiers));
            CHECKS.holds(inside + " is hidden", !Modifier.isPublic(modifiers) && !Modifier.isProtected(modifiers));
            fields(inside);
        }
        CHECKS.end();
    }

    private static void methods(Class<?> face) {
        Set<String> seen = new TreeSet<>();
        Set<String> seenNames = new HashSet<>();
        for (Method method : face.getDeclaredMethods()) {
            if (!Modifier.isPrivate(method.getModifiers())) {
                seen.add(told(method));
                seenNames.add(method.getName());
            }
        }
        CHECKS.holds("the methods are " + seen, seen.equals(new TreeSet<>(Arrays.asList(FACE))));
        for (Method method : face.getDeclaredMethods()) {
            if (Modifier.isPrivate(method.getModifiers())) {
                CHECKS.holds(method + " has a name of its own", !seenNames.contains(method.getName()));
            }
        }
    }

    private static String told(Method method) {
        StringBuilder told = new StringBuilder();
        told.append(method.getReturnType()).append(' ').append(method.getName()).append('(');
        for (Class<?> parameter : method.getParameterTypes()) {
            told.append(told.charAt(told.length() - 1) == '(' ? "" : ",").append(parameter);
        }
        return told.append(')').toString();
    }

    private static void fields(Class<?> owner) {
        for (Field field : owner.getDeclaredFields()) {
            int modifiers = field.getModifiers();
            CHECKS.holds(field + " is private", owner != FourStones.class || Modifier.isPrivate(modifiers));
            CHECKS.holds(field + " is no static state", !Modifier.isStatic(modifiers) || Modifier.isFinal(modifiers));
        }
    }
}
