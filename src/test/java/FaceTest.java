import java.lang.reflect.Constructor;
import java.lang.reflect.Field;
import java.lang.reflect.Method;
import java.lang.reflect.Modifier;
import java.nio.file.Files;
import java.nio.file.Path;
import java.util.Set;
import java.util.TreeSet;
import java.util.regex.Pattern;

/** The public face, and the rules of LANGUAGE.md that can be looked for in the file. */
public final class FaceTest {
    private static final String[] FACE = {
        "int state(int)", "int walker(int)", "boolean comes(int,int,int)", "boolean turn(int,int)",
        "boolean lay(int,int,int)", "int minutes(int)", "int feed(int,int,int,int,int)", "boolean end(int)",
        "int text(int)", "int fault(int)", "int of(int,int)", "int cell(int,int,int)", "int book(int,int)",
        "int goes(int,int)", "int over(int)", "int far(int,int,int,int)", "int with(int,int,int,int)",
        "int seen(int,int)", "int known(int,int)", "int one(int)", "int move(int)", "int round(int)",
        "int folded(int,int,int)", "int duel(int,int,int)", "int ant(int,int)", "int hooks(int,int)",
        "int apart(int)", "int gap(int,int)", "int hedge()", "int meets(int,int)", "int pigeons(int)",
        "int game(int,int,int)", "boolean undo()", "boolean image(boolean)", "int look(int)"};

    private static final String[] NEVER = {"\\bthrow", "\\btry\\b", "\\bcatch\\b", "\\bsynchronized\\b", "\\bassert\\b",
        "->", "::", "\\bpackage\\b", "\\bNaN\\b", "Exact\\(", "\\bequals\\b", "\\bhashCode\\b", "\\btoString\\b",
        "\" \\+", "\\+ \"", "\\bRandom\\b", "\\bSystem\\.(?!arraycopy)", "\\bimport (?!java\\.util\\.Arrays;)"};

    public static void main(String[] args) throws Exception {
        Due due = new Due();
        Class<?> c = WindingSquare.class;
        due.is("public and final", Modifier.isPublic(c.getModifiers()) && Modifier.isFinal(c.getModifiers()), true);
        due.is("NONE", WindingSquare.NONE, -1);
        Set<String> names = new TreeSet<>();
        Set<String> found = new TreeSet<>();
        for (Method m : c.getDeclaredMethods()) {
            if (Modifier.isPrivate(m.getModifiers())) {
                continue;
            }
            names.add(m.getName());
            found.add(tell(m));
        }
        due.is("the methods", found.equals(new TreeSet<>(Set.of(FACE))), true);
        for (Field f : c.getDeclaredFields()) {
            due.is("hidden: " + f.getName(), Modifier.isPrivate(f.getModifiers()), !f.getName().equals("NONE"));
        }
        for (Method m : c.getDeclaredMethods()) {
            boolean hidden = Modifier.isPrivate(m.getModifiers());
            due.is("hidden under a name of the face: " + m.getName(), hidden && names.contains(m.getName()), false);
            due.is("public or hidden: " + m.getName(), hidden || Modifier.isPublic(m.getModifiers()), true);
        }
        fields(due, c);
        Constructor<?>[] made = c.getDeclaredConstructors();
        due.is("constructors", made.length == 1 && Modifier.isPublic(made[0].getModifiers()), true);
        int classes = 1;
        for (Class<?> inside : c.getDeclaredClasses()) {
            classes++;
            due.is("static " + inside.getName(), Modifier.isStatic(inside.getModifiers()), true);
            due.is("fields of " + inside.getName(), instanceFields(inside) <= 20, true);
            fields(due, inside);
            for (Method m : inside.getDeclaredMethods()) {
                due.is("a name of the face: " + m.getName(), names.contains(m.getName()), false);
                due.is("parameters of " + m.getName(), m.getParameterCount() <= 7, true);
            }
        }
        due.is("classes", classes <= 12, true);
        due.is("fields", instanceFields(c) <= 20, true);
        source(due);
        due.end();
    }

    private static String tell(Method m) {
        StringBuilder b = new StringBuilder(m.getReturnType().getName() + " " + m.getName() + "(");
        for (int i = 0; i < m.getParameterCount(); i++) {
            b.append(i == 0 ? "" : ",").append(m.getParameterTypes()[i].getName());
        }
        return b.append(")").toString();
    }

    /** Static fields are final constants; all fields are of types that rule 3 leaves. */
    private static void fields(Due due, Class<?> c) {
        for (Field f : c.getDeclaredFields()) {
            String name = c.getName() + "." + f.getName();
            Class<?> type = f.getType();
            Class<?> part = type.isArray() ? type.getComponentType() : type;
            boolean own = part.getName().startsWith("WindingSquare$");
            boolean plain = part == int.class || part == long.class || part == boolean.class || part == char.class;
            if (Modifier.isStatic(f.getModifiers())) {
                due.is("final: " + name, Modifier.isFinal(f.getModifiers()), true);
                due.is("a constant: " + name, plain || type == String.class, true);
            } else {
                due.is("a type of rule 3: " + name, plain || own, true);
            }
        }
    }

    private static int instanceFields(Class<?> c) {
        int n = 0;
        for (Field f : c.getDeclaredFields()) {
            n += Modifier.isStatic(f.getModifiers()) ? 0 : 1;
        }
        return n;
    }

    private static void source(Due due) throws Exception {
        String text = Files.readString(Path.of("src/main/java/WindingSquare.java"));
        String code = text.replaceAll("(?s)/\\*.*?\\*/", "").replaceAll("//[^\n]*", "");
        for (String never : NEVER) {
            due.is("in the file: " + never, Pattern.compile(never).matcher(code).find(), false);
        }
        due.is("signs below 128", code.chars().allMatch(ch -> ch < 128), true);
        int length = 0;
        for (String line : code.split("\n")) {
            length = line.matches("    (    )?\\S.*\\{") ? 0 : length + 1;
            due.is("a method too long, at: " + line, length <= 60 || line.matches("    (    )?\\S.*|"), true);
        }
    }
}
