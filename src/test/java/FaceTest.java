import java.lang.reflect.Constructor;
import java.lang.reflect.Field;
import java.lang.reflect.Method;
import java.lang.reflect.Modifier;
import java.util.Arrays;
import java.util.Set;
import java.util.TreeSet;

/** The face is the document's, and no more; what LANGUAGE.md says of fields, parameters and names. */
public final class FaceTest {
    private static final String[] FACE = {
        "int count(int)", "int shore(int,int)", "int feed(int,int,int,int,int,int)", "int text()", "int force(int)",
        "int asks(int,int,int)", "int fisher(int,int)", "int put(int,int,int)", "int told(int,int)",
        "int lands(int,int,int)", "int land(int,int)", "int teach(int,int)", "int tide()", "int talk(int,int)",
        "int season(int,int,int)", "int fish(int,int)", "int which(int,int)", "int taught(int,int)",
        "int lessons(int,int,int)", "int when(int)", "long share(int,int)", "int judge(int,int,int)",
        "int kinds(int,int,int,int)", "int turned(int,int,int)", "int lucks(int,int,int,int)", "int whose(int,int)",
        "int laws(int,int,int)", "int film(int,int,int)", "int drawn(int,int,int)", "long odds(int,int,int,int)",
        "int image()", "int back()", "int sheet(int,int,int)", "int cell(int,int,int)", "int copy(int,int,int,int,int)",
        "int fishersBy(int,int,int,int)", "int taken(int,int)"};

    public static void main(String[] args) {
        Class<?> face = NameThrownBack.class;
        Due.is("final", Modifier.isFinal(face.getModifiers()) && Modifier.isPublic(face.getModifiers()) ? 1 : 0, 1);
        Set<String> due = new TreeSet<>(Arrays.asList(FACE));
        Set<String> names = new TreeSet<>();
        Set<String> found = new TreeSet<>();
        for (String call : FACE) {
            names.add(call.substring(call.indexOf(' ') + 1, call.indexOf('(')));
        }
        for (Method m : face.getDeclaredMethods()) {
            if (Modifier.isPublic(m.getModifiers())) {
                found.add(signature(m));
            } else {
                Due.holds(m + " is private", Modifier.isPrivate(m.getModifiers()));
                Due.holds(m + " has a name of its own", !names.contains(m.getName()));
            }
        }
        Due.holds("the methods are " + found, due.equals(found));
        Constructor<?>[] made = face.getDeclaredConstructors();
        Due.is("one constructor", made.length, 1);
        Due.is("without parameters", made[0].getParameterCount(), 0);
        Due.holds("public", Modifier.isPublic(made[0].getModifiers()));
        constants();
        fields(face);
        for (Class<?> inside : face.getDeclaredClasses()) {
            Due.holds(inside + " is static", Modifier.isStatic(inside.getModifiers()));
            Due.holds(inside + " is not public", !Modifier.isPublic(inside.getModifiers()));
            fields(inside);
            for (Method m : inside.getDeclaredMethods()) {
                Due.holds(m + " has a name of its own", !names.contains(m.getName()));
                Due.holds(m + " takes at most seven", m.getParameterCount() <= 7);
            }
        }
        Due.end();
    }

    static String signature(Method m) {
        StringBuilder all = new StringBuilder(m.getReturnType().getName() + " " + m.getName() + "(");
        for (Class<?> c : m.getParameterTypes()) {
            all.append(all.charAt(all.length() - 1) == '(' ? "" : ",").append(c.getName());
        }
        return all.append(")").toString();
    }

    static void constants() {
        Due.is("NONE", NameThrownBack.NONE, -1);
        Due.is("BAD", NameThrownBack.BAD, -2);
        Due.is("STATE", NameThrownBack.STATE, -3);
        Due.is("FULL", NameThrownBack.FULL, -4);
        Due.is("NO", NameThrownBack.NO, -4611686018427387904L);
        int open = 0;
        for (Field f : NameThrownBack.class.getDeclaredFields()) {
            if (!Modifier.isPrivate(f.getModifiers())) {
                open++;
            }
        }
        Due.is("no other open field", open, 5);
    }

    static void fields(Class<?> c) {
        int own = 0;
        for (Field f : c.getDeclaredFields()) {
            if (Modifier.isStatic(f.getModifiers())) {
                Due.holds(f + " is final", Modifier.isFinal(f.getModifiers()));
            } else {
                own++;
            }
        }
        Due.holds(c + " has some twenty fields at most", own <= 20);
    }
}
