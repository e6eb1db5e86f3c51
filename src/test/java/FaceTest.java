import java.lang.reflect.Constructor;
import java.lang.reflect.Field;
import java.lang.reflect.Method;
import java.lang.reflect.Modifier;
import java.util.ArrayList;
import java.util.Arrays;
import java.util.List;
import java.util.TreeSet;

/** The public face is the document's and no more (rules 1, 2, 5 and 11 of LANGUAGE.md, as far as reflection sees them). */
public final class FaceTest {
    private static final String FACE = "int type(int,int);int wipe(int);int undo(int);int fault(int);int person(int,int);"
        + "int promise(int,int);int keeping(int,int);int lie(int,int,int);int letting(int,int,int);int back(int);int read(int);"
        + "int coat(int,int,int);int stands(int,int);int neat(int);int naked(int);int longest(int);int splits();int best();"
        + "int swear(int,int);int keep(int,int);int due(int,int);int hush(int);int seen(int,int,int);int forget();int never();"
        + "int was(int,int);int ask(int);long word(int,int,int,int);int year(int,int,int);int sheet(int,int,int);int lose(int);"
        + "int put(int,int,int,int);int get(int,int,int);int copy(int,int,int,int,int);int write(int,int);int count(int);long digest()";

    public static void main(String[] args) throws Exception {
        Class<?> face = PromiseTailor.class;
        Check.due("public and final", face.getModifiers(), Modifier.PUBLIC | Modifier.FINAL);
        methods(face);
        constants(face);
        Constructor<?>[] constructors = face.getDeclaredConstructors();
        Check.due("one constructor", constructors.length, 1);
        Check.due("without parameters", constructors[0].getParameterCount(), 0);
        Check.due("public", constructors[0].getModifiers(), Modifier.PUBLIC);
        List<Class<?>> all = new ArrayList<>(Arrays.asList(face.getDeclaredClasses()));
        Check.due("at most twelve classes", all.size() <= 12 ? 1 : 0, 1);
        for (Class<?> inside : all) {
            says(Modifier.isStatic(inside.getModifiers()) && !Modifier.isPublic(inside.getModifiers()), inside + " is static and not public");
            says(inside.getDeclaredClasses().length == 0, inside + " has no classes inside");
        }
        all.add(face);
        for (Class<?> one : all) {
            members(one);
        }
        Check.end();
    }

    private static void says(boolean so, String what) {
        Check.due(what, so ? 1 : 0, 1);
    }

    private static String told(Method m) {
        StringBuilder told = new StringBuilder(m.getReturnType() + " " + m.getName() + "(");
        for (Class<?> p : m.getParameterTypes()) {
            told.append(told.charAt(told.length() - 1) == '(' ? "" : ",").append(p);
        }
        return told.append(')').toString();
    }

    private static void methods(Class<?> face) {
        TreeSet<String> want = new TreeSet<>(Arrays.asList(FACE.split(";")));
        TreeSet<String> got = new TreeSet<>();
        for (Method m : face.getDeclaredMethods()) {
            if (!Modifier.isPrivate(m.getModifiers()) && !m.isSynthetic()) {
                says(m.getModifiers() == Modifier.PUBLIC, told(m) + " is public alone");
                got.add(told(m));
            }
        }
        says(got.equals(want), "the methods are the document's: " + got);
    }

    private static void constants(Class<?> face) throws Exception {
        TreeSet<String> got = new TreeSet<>();
        for (Field f : face.getDeclaredFields()) {
            if (!Modifier.isPrivate(f.getModifiers())) {
                got.add(f.getName());
                says(f.getModifiers() == (Modifier.PUBLIC | Modifier.STATIC | Modifier.FINAL) && f.getType() == int.class, f + " is a constant");
            }
        }
        says(got.equals(new TreeSet<>(Arrays.asList("NONE", "BAD", "NOT", "FULL"))), "the constants are the document's: " + got);
        Check.due("NONE", PromiseTailor.NONE, -1);
        Check.due("BAD", PromiseTailor.BAD, -2);
        Check.due("NOT", PromiseTailor.NOT, -3);
        Check.due("FULL", PromiseTailor.FULL, -4);
    }

    private static void members(Class<?> one) {
        int fields = 0;
        for (Field f : one.getDeclaredFields()) {
            if (Modifier.isStatic(f.getModifiers())) {
                says(Modifier.isFinal(f.getModifiers()), f + " is final");
            } else {
                fields++;
            }
        }
        says(fields <= 20, one + " has at most twenty fields");
        TreeSet<String> publicNames = new TreeSet<>();
        for (String told : FACE.split(";")) {
            publicNames.add(told.substring(told.indexOf(' ') + 1, told.indexOf('(')));
        }
        for (Method m : one.getDeclaredMethods()) {
            says(m.getParameterCount() <= 7, m + " has at most seven parameters");
            says(one == PromiseTailor.class && Modifier.isPublic(m.getModifiers()) || !publicNames.contains(m.getName()),
                m + " does not bear the name of a public one");
        }
    }
}
