import java.lang.reflect.Constructor;
import java.lang.reflect.Field;
import java.lang.reflect.Member;
import java.lang.reflect.Method;
import java.lang.reflect.Modifier;
import java.util.Arrays;
import java.util.Set;
import java.util.TreeSet;

/** The public face: all of the document's, and nothing else that can be seen from outside. */
public final class FaceTest {
    private static final String[] FACE = {
        "int feed(long,long,long)", "int inn()", "int room(int,int)", "int guest(int,int)", "boolean use(int)",
        "int gives(int,int,int)", "int come(int,int)", "int leave(int,int)", "int over()", "int sum(int)",
        "int where(int,int)", "int who(int,int)", "int letter(int,int,int)", "int trunk(int,int,int)",
        "int sight(int,int,int)", "int could(int,int)", "int liars()", "int page(int,int)", "long ways()",
        "int sure(int)", "int job(int,int,int)", "int porters(int)", "int told()", "boolean clear()",
        "int book(int)", "int order(int,int)", "int tried(int,int)", "int best()", "boolean mark(int,boolean)",
        "int count(int)"
    };

    public static void main(String[] args) {
        Due due = new Due();
        Set<String> seen = new TreeSet<>();
        for (Method method : MoveInn.class.getDeclaredMethods()) {
            if (!Modifier.isPrivate(method.getModifiers())) {
                due.is("public " + method, Modifier.isPublic(method.getModifiers()), true);
                due.is("not static " + method, Modifier.isStatic(method.getModifiers()), false);
                seen.add(headOf(method));
            }
        }
        due.is("the methods are " + seen, seen.equals(new TreeSet<>(Arrays.asList(FACE))), true);
        for (Field field : MoveInn.class.getDeclaredFields()) {
            due.is("private " + field, isPrivate(field), !field.getName().equals("NONE"));
        }
        for (Constructor<?> constructor : MoveInn.class.getDeclaredConstructors()) {
            due.is("public " + constructor, Modifier.isPublic(constructor.getModifiers()), true);
            due.is("parameters of " + constructor, constructor.getParameterCount(), 0);
        }
        for (Class<?> inside : MoveInn.class.getDeclaredClasses()) {
            due.is("static " + inside, Modifier.isStatic(inside.getModifiers()), true);
            for (Method method : inside.getDeclaredMethods()) {
                due.is("no name of the face " + method, isNameOfFace(method.getName()), false);
            }
        }
        due.is("final", Modifier.isFinal(MoveInn.class.getModifiers()), true);
        due.is("NONE", MoveInn.NONE, -1);
        due.end();
    }

    private static boolean isPrivate(Member member) {
        return Modifier.isPrivate(member.getModifiers());
    }

    private static boolean isNameOfFace(String name) {
        return Arrays.stream(FACE).anyMatch(head -> head.contains(" " + name + "("));
    }

    private static String headOf(Method method) {
        StringBuilder head = new StringBuilder();
        head.append(method.getReturnType()).append(' ').append(method.getName()).append('(');
        for (Class<?> type : method.getParameterTypes()) {
            head.append(head.charAt(head.length() - 1) == '(' ? "" : ",").append(type);
        }
        return head.append(')').toString();
    }
}
