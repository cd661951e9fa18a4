import java.lang.reflect.Constructor;
import java.lang.reflect.Field;
import java.lang.reflect.Method;
import java.lang.reflect.Modifier;
import java.util.HashSet;
import java.util.Set;
import java.util.TreeSet;

/** The class has the document's face and nothing more that can be seen from outside. */
public final class FaceTest {
    private static final String[] METHODS = {
        "int word(int,int,int,int,int)", "int strikeOut(int)", "int far(int,int,int)", "int set(int,int)", "int say(int)",
        "int wipe()", "int fault(int)", "int price(int)", "int gets(int,int)", "int nearly(int,int,int)",
        "int said(int,int,int)", "int misprints(int,int)", "int judge(int)", "int done()", "int state(int,int)",
        "int behind(int,int)", "int after(int,int,int)", "int settles()", "int round()", "int list()", "int held(int)",
        "int strike(int)", "int worst()", "int seen(int,int)", "int forget(int)", "int spoke(int,int)", "int who()",
        "long let(int,int,int)", "int rests(int,int,int)", "int year(int,int,int)", "int image(int)", "int restore(int)",
        "int told(int)"
    };

    public static void main(String[] args) {
        Due due = new Due("FaceTest");
        due.is("NONE", WordRents.NONE, -6);
        due.is("UNKNOWN", WordRents.UNKNOWN, -1);
        due.is("OUTSIDE", WordRents.OUTSIDE, -2);
        due.is("STATE", WordRents.STATE, -3);
        due.is("FULL", WordRents.FULL, -4);
        due.is("NO", WordRents.NO, -5);
        due.is("LOST", WordRents.LOST, -1000000000000000000L);
        due.isTrue("the class is public and final",
                Modifier.isPublic(WordRents.class.getModifiers()) && Modifier.isFinal(WordRents.class.getModifiers()));
        methods(due);
        fields(due);
        Constructor<?>[] made = WordRents.class.getDeclaredConstructors();
        due.isTrue("one public constructor", made.length == 1 && Modifier.isPublic(made[0].getModifiers()));
        for (Class<?> inside : WordRents.class.getDeclaredClasses()) {
            due.isTrue(inside + " is static and not public",
                    Modifier.isStatic(inside.getModifiers()) && !Modifier.isPublic(inside.getModifiers()));
        }
        due.end();
    }

    private static void methods(Due due) {
        Set<String> seen = new TreeSet<>();
        Set<String> names = new HashSet<>();
        for (Method m : WordRents.class.getDeclaredMethods()) {
            if (!Modifier.isPrivate(m.getModifiers())) {
                seen.add(face(m));
                names.add(m.getName());
            }
        }
        due.isTrue("the methods are the document's: " + seen, seen.equals(new TreeSet<>(Set.of(METHODS))));
        for (Method m : WordRents.class.getDeclaredMethods()) {
            due.isTrue("a private method bears a public name: " + m,
                    !Modifier.isPrivate(m.getModifiers()) || !names.contains(m.getName()));
        }
        for (Class<?> inside : WordRents.class.getDeclaredClasses()) {
            for (Method m : inside.getDeclaredMethods()) {
                due.isTrue("a method inside bears a public name: " + m, !names.contains(m.getName()));
            }
        }
    }

    private static void fields(Due due) {
        Set<String> seen = new TreeSet<>();
        for (Field f : WordRents.class.getDeclaredFields()) {
            if (!Modifier.isPrivate(f.getModifiers())) {
                seen.add(f.getName());
            }
            due.isTrue("a static field that is not final: " + f,
                    !Modifier.isStatic(f.getModifiers()) || Modifier.isFinal(f.getModifiers()));
        }
        due.isTrue("the fields are the document's: " + seen,
                seen.equals(Set.of("NONE", "UNKNOWN", "OUTSIDE", "STATE", "FULL", "NO", "LOST")));
    }

    private static String face(Method m) {
        StringBuilder text = new StringBuilder();
        text.append(m.getReturnType()).append(' ').append(m.getName()).append('(');
        Class<?>[] takes = m.getParameterTypes();
        for (int i = 0; i < takes.length; i++) {
            text.append(i == 0 ? "" : ",").append(takes[i]);
        }
        return text.append(')').toString();
    }
}
