import java.io.IOException;
import java.lang.reflect.Constructor;
import java.lang.reflect.Field;
import java.lang.reflect.Method;
import java.lang.reflect.Modifier;
import java.nio.file.Files;
import java.nio.file.Path;
import java.util.ArrayList;
import java.util.Arrays;
import java.util.List;
import java.util.Set;
import java.util.TreeSet;
import java.util.regex.Matcher;
import java.util.regex.Pattern;
import javax.lang.model.element.Element;

/** The face of the document, and the rules of LANGUAGE.md that a plain reading of the source can try. */
public final class LanguageTest {
    private static final Check CHECK = new Check();
    private static final String[] FACE = {
        "int at(int,int)", "int bar(int,int)", "int beside(int)", "int copy(int,int,int,int,int)",
        "int count(int)", "int drift(int)", "int drop(int)", "int face(int,int)", "int film(int,int,int)",
        "int image()", "int item(int,int,int,long)", "int joint(int,int)", "int lose(int)", "int move(int,int,int)",
        "int next(int)", "int of(int,int)", "int out(int)", "int read()", "int restore()", "int round(int,int)",
        "int seed(int)", "int sheet(int,int,int)", "int type(int)", "int undo()", "int weight(int,int)",
        "int what(int,int,int)", "long corner(int,int,int,int)", "long fail(int,int)", "long height(int,int)",
        "long plane(int,int,int)", "long point(int,int,int)", "long pull(int,int)", "long stress(int,int,int)",
    };
    private static final String[] CONSTANTS = {
        "BAD=-1", "CAST=-12", "FULL=-3", "INDEX=-13", "NONE=-4", "NOT=-2", "NULL=-11", "SIZE=-14",
    };
    /** What rules 3, 4, 6 and 13 leave out, as words of the source. */
    private static final String[] FORBIDDEN = {
        "throw", "throws", "try", "catch", "finally", "synchronized", "assert", "\\w+Exact", "double", "float", "Object",
        "System\\.(?!arraycopy)\\w+", "Thread", "Random", "->", "::", "protected", "native", "volatile", "var", "@\\w+",
        "equals", "hashCode", "toString", "static\\s*\\{",
    };

    private LanguageTest() {
    }

    public static void main(String[] args) throws Exception {
        checkFace();
        checkClasses();
        checkSource();
        CHECK.end();
    }

    private static String signature(Method m) {
        StringBuilder s = new StringBuilder(m.getReturnType().toString()).append(' ').append(m.getName()).append('(');
        for (Class<?> p : m.getParameterTypes()) {
            s.append(s.charAt(s.length() - 1) == '(' ? "" : ",").append(p);
        }
        return s.append(')').toString();
    }

    private static void checkFace() throws IllegalAccessException {
        Set<String> methods = new TreeSet<>();
        for (Method m : ForceFrames.class.getDeclaredMethods()) {
            if (!Modifier.isPrivate(m.getModifiers())) {
                methods.add(signature(m));
                CHECK.holds(m.getName() + " is public and no static", Modifier.isPublic(m.getModifiers()) && !Modifier.isStatic(m.getModifiers()));
            }
        }
        CHECK.holds("the methods are the document's: " + methods, methods.equals(new TreeSet<>(Arrays.asList(FACE))));
        Set<String> constants = new TreeSet<>();
        for (Field f : ForceFrames.class.getDeclaredFields()) {
            if (!Modifier.isPrivate(f.getModifiers())) {
                constants.add(f.getName() + "=" + f.getInt(null));
                CHECK.holds(f.getName() + " is public static final int", f.getModifiers() == (Modifier.PUBLIC | Modifier.STATIC | Modifier.FINAL) && f.getType() == int.class);
            }
        }
        CHECK.holds("the constants are the document's: " + constants, constants.equals(new TreeSet<>(Arrays.asList(CONSTANTS))));
        Constructor<?>[] made = ForceFrames.class.getDeclaredConstructors();
        CHECK.holds("one constructor, public, of nothing", made.length == 1 && Modifier.isPublic(made[0].getModifiers()) && made[0].getParameterCount() == 0);
        CHECK.holds("public and final", ForceFrames.class.getModifiers() == (Modifier.PUBLIC | Modifier.FINAL));
    }

    private static void checkClasses() {
        Set<String> names = new TreeSet<>();
        for (String s : FACE) {
            names.add(s.substring(s.indexOf(' ') + 1, s.indexOf('(')));
        }
        List<Class<?>> all = new ArrayList<>(Arrays.asList(ForceFrames.class.getDeclaredClasses()));
        CHECK.holds("at most twelve classes", all.size() <= 11);
        for (Class<?> c : all) {
            CHECK.holds(c + " is static", Modifier.isStatic(c.getModifiers()));
            CHECK.holds(c + " is not public", !Modifier.isPublic(c.getModifiers()) && !Modifier.isProtected(c.getModifiers()));
        }
        all.add(ForceFrames.class);
        for (Class<?> c : all) {
            int fields = 0;
            for (Field f : c.getDeclaredFields()) {
                boolean fixed = Modifier.isStatic(f.getModifiers());
                CHECK.holds(f + ": static is final", !fixed || Modifier.isFinal(f.getModifiers()));
                fields += fixed ? 0 : 1;
            }
            CHECK.holds(c + " has at most twenty fields", fields <= 20);
            for (Method m : c.getDeclaredMethods()) {
                CHECK.holds(m + " has at most seven parameters", m.getParameterCount() <= 7);
                boolean own = c != ForceFrames.class || Modifier.isPrivate(m.getModifiers());
                CHECK.holds(m + " bears a name of its own", !own || !names.contains(m.getName()));
            }
        }
    }

    private static void checkSource() throws IOException {
        Path path = Path.of(System.getProperty("project.root", "."), "src/main/java/ForceFrames.java");
        String source = Files.readString(path);
        for (char sign : source.toCharArray()) {
            if (sign > 127) {
                CHECK.holds("signs up to 127 alone", false);
            }
        }
        String code = source.replaceAll("(?s)/\\*.*?\\*/", "").replaceAll("//[^\n]*", "").replaceAll("'[^']*'", "' '");
        for (String word : FORBIDDEN) {
            Matcher m = Pattern.compile("(?<!\\w)" + word + "(?!\\w)").matcher(code);
            boolean found = m.find();
            CHECK.holds("no " + word + (found ? ": " + m.group() : ""), !found);
        }
        Matcher imports = Pattern.compile("import ([^;]*);").matcher(code);
        while (imports.find()) {
            CHECK.holds("import " + imports.group(1), Set.of("java.util.Arrays", "java.util.ArrayList", "java.util.List", "java.util.Iterator").contains(imports.group(1)));
        }
        CHECK.holds("no package", !Pattern.compile("(?m)^package").matcher(code).find());
        checkMethods(Source.of(path));
    }

    private static void checkMethods(Source source) {
        CHECK.holds("the source has methods", source.methods().size() > FACE.length);
        for (Element method : source.methods()) {
            String name = method.getEnclosingElement() + "." + method;
            CHECK.holds(name + " has at most sixty lines", source.linesOf(method) <= 60);
            CHECK.holds(name + " goes at most eight calls deep", source.depthOf(method) <= 8);
        }
    }
}
