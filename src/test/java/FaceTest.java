import java.lang.reflect.Field;
import java.lang.reflect.Method;
import java.lang.reflect.Modifier;
import java.util.Set;
import java.util.TreeSet;

/** The class has just the face of the document. */
final class FaceTest {
    public static void main(String[] args) throws Exception {
        Class<?> face = PassportOffice.class;
        Check.yes("public and final", Modifier.isPublic(face.getModifiers()) && Modifier.isFinal(face.getModifiers()));
        Check.same("constructors", 1, face.getDeclaredConstructors().length);
        Check.yes("public constructor", Modifier.isPublic(face.getDeclaredConstructor().getModifiers()));
        methods(face);
        fields(face);
        for (Class<?> inner : face.getDeclaredClasses()) {
            Check.yes(inner + " is private and static", Modifier.isPrivate(inner.getModifiers()) && Modifier.isStatic(inner.getModifiers()));
        }
        Check.yes("some twelve classes", face.getDeclaredClasses().length < 12);
        Check.same("NONE", -1, PassportOffice.NONE);
        Check.close();
    }

    private static void methods(Class<?> face) {
        Set<String> open = new TreeSet<>();
        Set<String> openNames = new TreeSet<>();
        for (Method m : face.getDeclaredMethods()) {
            if (Modifier.isPrivate(m.getModifiers())) continue;
            Check.yes(m + " is public", Modifier.isPublic(m.getModifiers()));
            StringBuilder text = new StringBuilder(m.getReturnType() + " " + m.getName());
            for (Class<?> p : m.getParameterTypes()) text.append(" ").append(p);
            open.add(text.toString());
            openNames.add(m.getName());
        }
        for (Method m : face.getDeclaredMethods()) {
            if (Modifier.isPrivate(m.getModifiers())) Check.yes(m + " has a name of its own", !openNames.contains(m.getName()));
        }
        Set<String> due = new TreeSet<>(java.util.List.of(
            "int feed int int int int int", "boolean end int", "int law int", "int fault",
            "int person int boolean int int int int int", "int name int", "int sign int int", "int figure int",
            "int far int int", "int tell int int boolean", "int judge int int int boolean int",
            "int ask int int int int boolean", "int give int int", "void hands int int",
            "int lend int int int int int", "int units int int", "void rules int int int int int",
            "void order int", "int blanks int", "void broken int int", "int days int", "void refuse int",
            "void lose int", "void again int", "int led int int", "int queue int", "int ahead int",
            "int booklet int int", "int valid int int", "int missed int int", "int waits int boolean",
            "int ends int int", "int count int"));
        Check.same("the face", due.toString(), open.toString());
    }

    private static void fields(Class<?> face) {
        for (Field f : face.getDeclaredFields()) {
            boolean isPrivate = Modifier.isPrivate(f.getModifiers());
            Check.yes(f + " is NONE or private", isPrivate || f.getName().equals("NONE"));
            boolean isStatic = Modifier.isStatic(f.getModifiers());
            Check.yes(f + " is final if static", !isStatic || Modifier.isFinal(f.getModifiers()));
        }
    }
}
