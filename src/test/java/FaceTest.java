import java.lang.reflect.Constructor;
import java.lang.reflect.Field;
import java.lang.reflect.Method;
import java.lang.reflect.Modifier;
import java.util.Set;
import java.util.TreeSet;

/** The public face: its constants, constructor and methods, and no other member to be seen. */
public final class FaceTest {
    private static final String[] METHODS = {
        "int sign(int,int)", "int variable(int)", "int term(int,int,int)", "int rule(int,int)",
        "int on(int,boolean)", "int step(int,int)", "int normal(int,int)", "long used(int,int)",
        "int ends(int)", "int above(int,int)", "int pairs()", "long pair(int,int)",
        "int tables(int)", "int cell(int,int,int,int)", "int has(int,int)", "int value(int)",
        "int judge(int)", "int refuted(int)", "long of(int,int,int)", "int part(int,int)",
        "int count(int)", "int clear()"
    };

    public static void main(String[] args) {
        Check check = new Check();
        constants(check);
        members(check);
        thrown(check);
        check.finish();
    }

    private static void constants(Check check) {
        check.due("NONE", RewriteChecks.NONE, -1);
        check.due("BAD", RewriteChecks.BAD, -2);
        check.due("STATE", RewriteChecks.STATE, -3);
        check.due("FULL", RewriteChecks.FULL, -4);
        check.due("OPEN", RewriteChecks.OPEN, -5);
    }

    private static void members(Check check) {
        Class<?> face = RewriteChecks.class;
        check.due("final", Modifier.isFinal(face.getModifiers()) ? 1 : 0, 1);
        check.due("public", Modifier.isPublic(face.getModifiers()) ? 1 : 0, 1);
        int fields = 0;
        for (Field f : face.getDeclaredFields()) {
            fields += Modifier.isPrivate(f.getModifiers()) ? 0 : 1;
            boolean isMutable = !Modifier.isFinal(f.getModifiers());
            check.due(f + " is static and not final",
                    Modifier.isStatic(f.getModifiers()) && isMutable ? 1 : 0, 0);
        }
        check.due("fields to be seen", fields, 5);
        for (Constructor<?> c : face.getDeclaredConstructors()) {
            check.due(c + " has parameters", c.getParameterCount(), 0);
        }
        Set<String> due = new TreeSet<>(Set.of(METHODS));
        Set<String> hidden = new TreeSet<>();
        for (Method m : face.getDeclaredMethods()) {
            if (Modifier.isPrivate(m.getModifiers())) {
                hidden.add(m.getName());
            } else {
                String text = describe(m);
                check.due(text + " is of the face", due.remove(text) ? 1 : 0, 1);
            }
        }
        check.due("missing " + due, due.size(), 0);
        for (String name : METHODS) {
            String plain = name.substring(name.indexOf(' ') + 1, name.indexOf('('));
            check.due("private " + plain, hidden.contains(plain) ? 1 : 0, 0);
        }
    }

    private static String describe(Method m) {
        StringBuilder text = new StringBuilder(m.getReturnType() + " " + m.getName() + "(");
        for (Class<?> c : m.getParameterTypes()) {
            text.append(text.charAt(text.length() - 1) == '(' ? "" : ",").append(c);
        }
        return text.append(")").toString();
    }

    private static void thrown(Check check) {
        int declared = 0;
        for (Method m : RewriteChecks.class.getMethods()) {
            if (m.getName().equals("part")) {
                for (Class<?> e : m.getExceptionTypes()) {
                    declared += e == ArrayIndexOutOfBoundsException.class ? 1 : 0;
                }
            }
        }
        check.due("part() tells what it throws", declared, 1);
    }
}
