import java.lang.reflect.Constructor;
import java.lang.reflect.Field;
import java.lang.reflect.Method;
import java.lang.reflect.Modifier;
import java.nio.file.Files;
import java.nio.file.Path;
import java.util.ArrayList;
import java.util.Arrays;
import java.util.List;
import java.util.TreeSet;
import java.util.regex.Matcher;
import java.util.regex.Pattern;

/** The class keeps to the face of the document and to those rules of LANGUAGE.md that can be seen from outside. */
public final class LanguageTest {
    private static final String[] FACE = {"int load(int,int,int)", "int of(int,int)", "int bend(int,int,int,int)",
        "int clear()", "int at(int,int)", "int bars(int)", "int terms(int,int)", "int feed(int,int,int,int,int)",
        "int end(int)", "int row()", "int mud()", "int law()", "int orders()", "int fault()", "int stopped()",
        "int force(int)", "int gas(int)", "int brake(int)", "int lane(int)", "int put(int,int)", "int lean(int,int)",
        "int ride()", "int undo()", "int goes(int,int)", "int quick(int,int)", "int soonest(int)", "int lanes(int)",
        "int leaning(int,int)", "int putting(int)", "int setting(int)", "int learning()", "int sight(int,int,int)",
        "int forget()", "int aboard(int)", "int days(int,int)", "int drawn(int)", "int image(int)", "int back(int)",
        "int count(int)", "int status()"};

    private LanguageTest() {
    }

    private static void due(String call, long got, long want) {
        Check.due(call, got, want);
    }

    private static void checkFace() {
        TreeSet<String> face = new TreeSet<>();
        TreeSet<String> names = new TreeSet<>();
        for (Method m : ThreeWheels.class.getDeclaredMethods()) {
            if (m.isSynthetic()) {
                continue;
            }
            if (Modifier.isPublic(m.getModifiers())) {
                StringBuilder told = new StringBuilder(m.getReturnType() + " " + m.getName() + "(");
                for (Class<?> c : m.getParameterTypes()) {
                    told.append(told.charAt(told.length() - 1) == '(' ? "" : ",").append(c);
                }
                face.add(told + ")");
                names.add(m.getName());
            } else {
                due("private: " + m, Modifier.isPrivate(m.getModifiers()) ? 1 : 0, 1);
            }
        }
        due("the face " + face, face.equals(new TreeSet<>(Arrays.asList(FACE))) ? 1 : 0, 1);
        due("final", Modifier.isFinal(ThreeWheels.class.getModifiers()) ? 1 : 0, 1);
        Constructor<?>[] made = ThreeWheels.class.getDeclaredConstructors();
        due("constructors", made.length, 1);
        due("public", Modifier.isPublic(made[0].getModifiers()) ? 1 : 0, 1);
        for (Method m : ThreeWheels.class.getDeclaredMethods()) {
            due("a face's name: " + m, Modifier.isPublic(m.getModifiers()) || !names.contains(m.getName()) ? 1 : 0, 1);
        }
        checkClass(ThreeWheels.class);
        due("some twelve classes", checkInside(ThreeWheels.class) <= 12 ? 1 : 0, 1);
    }

    /** How many classes stand inside that one. */
    private static int checkInside(Class<?> c) {
        int classes = 0;
        for (Class<?> inside : c.getDeclaredClasses()) {
            int m = inside.getModifiers();
            due("static: " + inside, Modifier.isStatic(m) ? 1 : 0, 1);
            due("private or package-visible: " + inside, Modifier.isPublic(m) || Modifier.isProtected(m) ? 1 : 0, 0);
            checkClass(inside);
            classes += 1 + checkInside(inside);
        }
        return classes;
    }

    private static void checkClass(Class<?> c) {
        int fields = 0;
        for (Field f : c.getDeclaredFields()) {
            int m = f.getModifiers();
            boolean constant = f.getName().equals("NONE") || f.getName().equals("NOTHING");
            if (c == ThreeWheels.class) {
                due("public: " + f, Modifier.isPublic(m) == constant && (constant || Modifier.isPrivate(m)) ? 1 : 0, 1);
            }
            if (Modifier.isStatic(m)) {
                due("a constant: " + f, f.isSynthetic() || Modifier.isFinal(m) && isConstant(f.getType()) ? 1 : 0, 1);
            } else {
                fields++;
            }
        }
        due("some twenty fields of " + c + ": " + fields, fields <= 20 ? 1 : 0, 1);
        for (Method m : c.getDeclaredMethods()) {
            due("parameters of " + m, m.getParameterCount() <= 7 ? 1 : 0, 1);
        }
    }

    private static boolean isConstant(Class<?> type) {
        Class<?> kind = type.isArray() ? type.getComponentType() : type;
        return kind.isPrimitive() || kind.isEnum() || type == String.class;
    }

    /** The lines without what stands in comments and strings. */
    private static List<String> bareLines() throws Exception {
        List<String> bare = new ArrayList<>();
        boolean within = false;
        for (String line : Files.readAllLines(Path.of("src/main/java/ThreeWheels.java"))) {
            String b = line.replaceAll("\"[^\"]*\"", "\"\"").replaceAll("'[^']'", "' '").replaceAll("//.*", "");
            if (within) {
                within = !b.contains("*/");
                b = b.replaceAll(".*\\*/", "");
                b = within ? "" : b;
            }
            b = b.replaceAll("/\\*.*?\\*/", "");
            if (b.contains("/*")) {
                within = true;
                b = b.replaceAll("/\\*.*", "");
            }
            bare.add(b);
        }
        return bare;
    }

    private static void checkSource() throws Exception {
        List<String> lines = bareLines();
        Pattern banned = Pattern.compile("\\b(throw|throws|try|catch|finally|synchronized|assert|package|native|Object|hashCode)\\b"
            + "|::|\\+ \"|\" \\+|\\w+Exact\\b");
        Pattern library = Pattern.compile("\\b(System|Arrays|Character|String|Thread|Objects|Collections)\\.(\\w+)");
        List<String> fine = Arrays.asList("System.arraycopy", "Arrays.fill", "Arrays.copyOf", "Arrays.copyOfRange");
        List<String> imports = Arrays.asList("import java.util.Arrays;", "import java.util.ArrayList;", "import java.util.List;",
            "import java.util.Iterator;");
        int methodFrom = -1;
        Pattern head = Pattern.compile("^( {4}| {8})(public|private|static|int|long|boolean|void|Program|[A-Z]\\w*\\()[^;=]*\\{$");
        for (int i = 0; i < lines.size(); i++) {
            String line = lines.get(i);
            String at = "line " + (i + 1) + ": " + line;
            due(at, banned.matcher(line).find() ? 1 : 0, 0);
            due(at, line.startsWith("import ") && !imports.contains(line) ? 1 : 0, 0);
            due(at, line.contains("->") && !line.trim().startsWith("case ") && !line.trim().startsWith("default ") ? 1 : 0, 0);
            Matcher m = library.matcher(line);
            while (m.find()) {
                due(at, fine.contains(m.group()) ? 1 : 0, 1);
            }
            due(at, line.chars().allMatch(c -> c < 128) ? 1 : 0, 1);
            if (head.matcher(line).matches() && !line.contains(" class ")) {
                methodFrom = i;
            }
            if (methodFrom >= 0 && line.equals(lines.get(methodFrom).replaceAll("\\S.*", "") + "}")) {
                due("length of the method at line " + (methodFrom + 1), i - methodFrom <= 60 ? 1 : 0, 1);
                methodFrom = -1;
            }
        }
    }

    public static void main(String[] args) throws Exception {
        checkFace();
        checkSource();
        Check.finish("LanguageTest");
    }
}
