import java.lang.reflect.Constructor;
import java.lang.reflect.Field;
import java.lang.reflect.Method;
import java.lang.reflect.Modifier;
import java.util.Set;
import java.util.TreeSet;

/** The class shows the face of the document and nothing beside it. */
public final class FaceTest {
    private static final Set<String> FACE = new TreeSet<>(Set.of(
            "int BAD_ARG", "int FULL", "int NONE",
            "SplayRow()",
            "int insert(int,int)", "int insertRun(int,int,int,int)", "int size()", "int get(int)",
            "int set(int,int)", "int cut(int,int)", "int copy(int,int)", "int paste(int)", "int clip()",
            "int reverse(int,int)", "int raise(int,int,int)", "int negate(int,int)", "int rotate(int,int,int)",
            "int sum(int,int)", "int greatest(int,int)", "int greatestAt(int,int)", "int firstFrom(int,int)",
            "int weighted(int,int)", "boolean alike(int,int,int)"));

    public static void main(String[] args) {
        Set<String> seen = new TreeSet<>();
        Set<String> openNames = new TreeSet<>();
        Set<String> hiddenNames = new TreeSet<>();
        for (Field f : SplayRow.class.getDeclaredFields()) {
            int m = f.getModifiers();
            if (!Modifier.isPrivate(m)) {
                seen.add(f.getType() + " " + f.getName());
                Check.due(f + " is a public constant", m, Modifier.PUBLIC | Modifier.STATIC | Modifier.FINAL);
            }
        }
        for (Constructor<?> c : SplayRow.class.getDeclaredConstructors()) {
            seen.add("SplayRow(" + types(c.getParameterTypes()) + ")");
            Check.due(c + " is public", Modifier.isPublic(c.getModifiers()), true);
        }
        for (Method m : SplayRow.class.getDeclaredMethods()) {
            if (Modifier.isPrivate(m.getModifiers())) {
                hiddenNames.add(m.getName());
                continue;
            }
            openNames.add(m.getName());
            seen.add(m.getReturnType() + " " + m.getName() + "(" + types(m.getParameterTypes()) + ")");
            Check.due(m + " is public and no more", m.getModifiers(), Modifier.PUBLIC);
        }
        Check.due("the face " + seen + " is the document's", seen.equals(FACE), true);
        hiddenNames.retainAll(openNames);
        Check.due("private methods with a public name " + hiddenNames, hiddenNames.size(), 0);
        Check.due("the class is public and final", SplayRow.class.getModifiers(), Modifier.PUBLIC | Modifier.FINAL);
        Check.due("nested classes", SplayRow.class.getDeclaredClasses().length, 0);
        Check.due("BAD_ARG", SplayRow.BAD_ARG, -1);
        Check.due("FULL", SplayRow.FULL, -2);
        Check.due("NONE", SplayRow.NONE, -4);
        Check.finish();
    }

    private static String types(Class<?>[] parameters) {
        StringBuilder names = new StringBuilder();
        for (Class<?> p : parameters) {
            names.append(names.length() == 0 ? "" : ",").append(p.getName());
        }
        return names.toString();
    }
}
