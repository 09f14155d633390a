import java.lang.reflect.Constructor;
import java.lang.reflect.Field;
import java.lang.reflect.Method;
import java.lang.reflect.Modifier;
import java.util.Arrays;
import java.util.Set;
import java.util.TreeSet;

/** The class has the face of the document and no other member that can be seen from outside. */
public final class FaceTest {
    private static final String[] FACE = {
        "machine():int", "row(int,int,int,int,int):int", "history(int,int):int", "copy(int):int",
        "begin(int,int,int,int,int):int", "answer(int,int,int):int", "alter(int,int,int):int",
        "status():int", "answered(int,int):int", "call(int,int,int):int", "about(int,int):int",
        "ahead(int,int,int,int):int", "judge(int,int):int", "first(int,int,int):int",
        "orders(int,int):long", "least(int,int):int", "part(int):int", "fills(int,int,int):int",
        "fill(int):int", "apart(int,int,int):int", "rules(int):int", "say(int):int", "check(int,int):int",
    };

    public static void main(String[] args) throws Exception {
        Due due = new Due();
        Class<?> court = HistoryCourt.class;
        due.holds("public and final", Modifier.isPublic(court.getModifiers()) && Modifier.isFinal(court.getModifiers()));
        Set<String> seen = new TreeSet<>();
        Set<String> publicNames = new TreeSet<>();
        for (Method m : court.getDeclaredMethods()) {
            if (Modifier.isPublic(m.getModifiers())) {
                publicNames.add(m.getName());
            }
            if (!Modifier.isPrivate(m.getModifiers()) && !m.isSynthetic()) {
                seen.add(signatureOf(m));
            }
        }
        due.holds("the methods are those of the document: " + seen, seen.equals(new TreeSet<>(Arrays.asList(FACE))));
        noPrivateNamesake(due, court, publicNames);
        for (Class<?> inside : court.getDeclaredClasses()) {
            due.holds(inside + " is static", Modifier.isStatic(inside.getModifiers()));
            noPrivateNamesake(due, inside, publicNames);
        }
        fields(due, court);
        Constructor<?>[] made = court.getDeclaredConstructors();
        due.is("constructors", made.length, 1);
        due.holds("a public constructor without parameters",
            Modifier.isPublic(made[0].getModifiers()) && made[0].getParameterCount() == 0);
        due.end();
    }

    private static void fields(Due due, Class<?> court) throws Exception {
        Set<String> seen = new TreeSet<>();
        for (Field f : court.getDeclaredFields()) {
            if (!Modifier.isPrivate(f.getModifiers())) {
                seen.add(Modifier.toString(f.getModifiers()) + " " + f.getName());
            }
        }
        String as = "public static final ";
        due.holds("the constants are those of the document: " + seen,
            seen.equals(Set.of(as + "NONE", as + "BAD", as + "STATE", as + "FULL")));
        due.is("NONE", court.getField("NONE").getInt(null), -1);
        due.is("BAD", court.getField("BAD").getInt(null), -2);
        due.is("STATE", court.getField("STATE").getInt(null), -3);
        due.is("FULL", court.getField("FULL").getInt(null), -4);
    }

    private static void noPrivateNamesake(Due due, Class<?> in, Set<String> publicNames) {
        for (Method m : in.getDeclaredMethods()) {
            boolean isHidden = !Modifier.isPublic(m.getModifiers());
            due.holds(in.getSimpleName() + "." + m.getName() + " bears a name of its own",
                !(isHidden && publicNames.contains(m.getName())));
        }
    }

    private static String signatureOf(Method m) {
        StringBuilder text = new StringBuilder(m.getName()).append('(');
        for (Class<?> p : m.getParameterTypes()) {
            text.append(text.charAt(text.length() - 1) == '(' ? "" : ",").append(p.getName());
        }
        return text.append("):").append(m.getReturnType().getName()).toString();
    }
}
