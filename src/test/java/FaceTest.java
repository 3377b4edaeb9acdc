import java.lang.reflect.Constructor;
import java.lang.reflect.Field;
import java.lang.reflect.Method;
import java.lang.reflect.Modifier;
import java.util.Arrays;
import java.util.Set;
import java.util.TreeSet;

/** The public face of the document, and nothing beside it (rules 1 and 2 of LANGUAGE.md). */
public final class FaceTest {
    private static final String[] FACE = {
        "int clear()", "int name(int)", "int row(int,int,int,int,int)", "int drop(int)", "int value(int,int)",
        "int set(int,int)", "int about(int)", "boolean isGraph(int)", "int order(int,int)", "int size(int,int)",
        "long word(int,int,int)", "int compare(int,int)", "int parents(int,int)", "int best()", "int climb(int,int)",
        "int alike(int,int)", "int kin(int,int)", "int shareSize(int,int,int)", "long shareWord(int,int,int,int)",
        "long test(int,int,int,int,int)"};

    public static void main(String[] args) {
        Check check = new Check();
        Class<?> face = StructureSearch.class;
        check.same("the class is public and final", face.getModifiers(), Modifier.PUBLIC | Modifier.FINAL);
        methods(check, face);
        fields(check, face);
        check.same("constructors", face.getDeclaredConstructors().length, 1);
        for (Constructor<?> c : face.getDeclaredConstructors()) {
            check.holds("the constructor", Modifier.isPublic(c.getModifiers()) && c.getParameterCount() == 0);
        }
        check.holds("some twelve classes", face.getDeclaredClasses().length <= 12);
        for (Class<?> inside : face.getDeclaredClasses()) within(check, face, inside);
        check.end();
    }

    private static void methods(Check check, Class<?> face) {
        Set<String> open = new TreeSet<>();
        Set<String> names = new TreeSet<>();
        for (Method m : face.getDeclaredMethods()) {
            boolean isOpen = Modifier.isPublic(m.getModifiers()) && !Modifier.isStatic(m.getModifiers());
            check.holds("public or private: " + m, isOpen || Modifier.isPrivate(m.getModifiers()));
            if (isOpen) open.add(told(m));
            if (isOpen) names.add(m.getName());
        }
        check.holds("the methods are those of the document: " + open, open.equals(new TreeSet<>(Arrays.asList(FACE))));
        for (Method m : face.getDeclaredMethods()) {
            boolean clash = !Modifier.isPublic(m.getModifiers()) && names.contains(m.getName());
            check.holds("no private method bears a public one's name: " + m, !clash);
        }
    }

    private static String told(Method m) {
        StringBuilder text = new StringBuilder(m.getReturnType() + " " + m.getName() + "(");
        for (Class<?> type : m.getParameterTypes()) text.append(text.charAt(text.length() - 1) == '(' ? "" : ",").append(type);
        return text.append(")").toString();
    }

    private static void fields(Check check, Class<?> face) {
        Set<String> open = new TreeSet<>();
        int own = 0;
        for (Field f : face.getDeclaredFields()) {
            boolean isOpen = Modifier.isPublic(f.getModifiers());
            if (isOpen) open.add(f.getName());
            check.holds("public or private: " + f, isOpen || Modifier.isPrivate(f.getModifiers()));
            check.holds("static is final: " + f, !Modifier.isStatic(f.getModifiers()) || Modifier.isFinal(f.getModifiers()));
            if (!Modifier.isStatic(f.getModifiers())) own++;
        }
        check.holds("the constants are those of the document: " + open,
            open.equals(new TreeSet<>(Arrays.asList("BAD", "STATE", "FULL"))));
        check.holds("some twenty fields", own <= 20);
    }

    private static void within(Check check, Class<?> face, Class<?> inside) {
        int kind = inside.getModifiers();
        check.holds("static: " + inside, Modifier.isStatic(kind));
        check.holds("not public: " + inside, !Modifier.isPublic(kind) && !Modifier.isProtected(kind));
        int own = 0;
        for (Field f : inside.getDeclaredFields()) {
            check.holds("static is final: " + f, !Modifier.isStatic(f.getModifiers()) || Modifier.isFinal(f.getModifiers()));
            if (!Modifier.isStatic(f.getModifiers())) own++;
        }
        check.holds("some twenty fields: " + inside, own <= 20);
        for (Method m : inside.getDeclaredMethods()) {
            boolean clash = Arrays.stream(FACE).anyMatch(told -> told.contains(" " + m.getName() + "("));
            check.holds("no method inside bears a public one's name: " + m, !clash);
            check.holds("seven parameters at most: " + m, m.getParameterCount() <= 7);
        }
    }
}
