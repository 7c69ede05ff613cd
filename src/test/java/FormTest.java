import java.io.IOException;
import java.lang.reflect.Field;
import java.lang.reflect.Member;
import java.lang.reflect.Method;
import java.lang.reflect.Modifier;
import java.nio.file.Files;
import java.nio.file.Path;
import java.util.Arrays;
import java.util.Set;
import java.util.TreeSet;
import java.util.regex.Matcher;
import java.util.regex.Pattern;
import java.util.stream.Collectors;

/** The face of the class, and what of LANGUAGE.md can be seen from outside or in the letters of the file. */
public final class FormTest {
    private static final Due due = new Due("FormTest");
    private static final String[] FACE = {
        "int about(int)", "int again(int)", "int ahead(int,int)", "int chance(int,int,boolean)", "int drawn(int)",
        "int fault()", "int fit(int)", "int heat(int)", "int job()", "int judge(int,long)", "int keep(int)",
        "int line(int,int)", "int pause(int)", "int print(int)", "int put(int)", "int ribbon(int)",
        "int see(int,int,int)", "int set(int,int)", "int share(int,boolean)", "int table(int)", "int undo()",
        "int unsee()", "int which()", "int wipe()", "int write(int)", "long seed(long)"};
    private static final String[] RULED_OUT = {
        "throw", "throws", "try", "catch", "synchronized", "assert", "import", "protected", "volatile", "native",
        "equals", "hashCode", "toString", "System\\s*\\.\\s*(?!arraycopy)\\w+", "\\w*Exact", "Thread", "Random",
        "static\\s*\\{", "->", "::", "while\\s*\\(\\s*true"};

    public static void main(String[] args) throws IOException {
        theFace();
        theConstants();
        theMembers();
        theClassesInside();
        theLetters();
        due.end();
    }

    private static void theFace() {
        int modifiers = HeatLines.class.getModifiers();
        due.isTrue("public and final", Modifier.isPublic(modifiers) && Modifier.isFinal(modifiers));
        Set<String> open = new TreeSet<>();
        for (Method m : HeatLines.class.getDeclaredMethods()) {
            if (!Modifier.isPrivate(m.getModifiers())) {
                String params = Arrays.stream(m.getParameterTypes()).map(Class::getName)
                    .collect(Collectors.joining(","));
                open.add(m.getReturnType().getName() + " " + m.getName() + "(" + params + ")");
            }
        }
        Set<String> want = new TreeSet<>(Arrays.asList(FACE));
        due.isTrue("the methods " + open, open.equals(want));
        due.is("constructors", HeatLines.class.getDeclaredConstructors().length, 1);
        due.is("the constructor's parameters", HeatLines.class.getConstructors()[0].getParameterCount(), 0);
    }

    private static void theConstants() {
        due.is("UNKNOWN", HeatLines.UNKNOWN, -1);
        due.is("BAD", HeatLines.BAD, -2);
        due.is("LATE", HeatLines.LATE, -3);
        due.is("FULL", HeatLines.FULL, -4);
        due.is("NONE", HeatLines.NONE, -9);
    }

    private static void theMembers() {
        Set<String> face = new TreeSet<>();
        for (Method m : HeatLines.class.getMethods()) {
            if (m.getDeclaringClass() == HeatLines.class) {
                face.add(m.getName());
            }
        }
        int openFields = 0;
        for (Field f : HeatLines.class.getDeclaredFields()) {
            openFields += Modifier.isPrivate(f.getModifiers()) ? 0 : 1;
        }
        due.is("open fields", openFields, 5);
        checkClass(HeatLines.class, face);
        for (Class<?> inside : HeatLines.class.getDeclaredClasses()) {
            checkClass(inside, face);
        }
    }

    private static void checkClass(Class<?> c, Set<String> face) {
        int fields = 0;
        for (Field f : c.getDeclaredFields()) {
            boolean isStatic = Modifier.isStatic(f.getModifiers());
            fields += isStatic ? 0 : 1;
            due.isTrue(name(f) + " is final, if static", !isStatic || Modifier.isFinal(f.getModifiers()));
        }
        due.isTrue(c.getName() + " has at most 20 fields", fields <= 20);
        for (Method m : c.getDeclaredMethods()) {
            due.isTrue(name(m) + " has at most 7 parameters", m.getParameterCount() <= 7);
            boolean ofFace = c == HeatLines.class && Modifier.isPublic(m.getModifiers());
            due.isTrue(name(m) + " has a name of its own", ofFace || !face.contains(m.getName()));
        }
    }

    private static String name(Member m) {
        return m.getDeclaringClass().getName() + "." + m.getName();
    }

    private static void theClassesInside() {
        Class<?>[] inside = HeatLines.class.getDeclaredClasses();
        due.isTrue("at most twelve classes", inside.length < 12);
        for (Class<?> c : inside) {
            due.isTrue(c.getName() + " is private and static",
                Modifier.isPrivate(c.getModifiers()) && Modifier.isStatic(c.getModifiers()));
        }
    }

    private static void theLetters() throws IOException {
        String file = Files.readString(Path.of("src/main/java/HeatLines.java"));
        due.isTrue("signs of 1 to 127 alone", file.chars().allMatch(c -> c >= 1 && c <= 127));
        String code = file.replaceAll("(?s)/\\*.*?\\*/", "").replaceAll("//[^\n]*", "");
        for (String word : RULED_OUT) {
            String whole = Character.isLetter(word.charAt(0)) ? "\\b" + word + "\\b" : word;
            Matcher found = Pattern.compile(whole).matcher(code);
            due.isTrue("no " + word, !found.find());
        }
        methodsAreShort(code);
    }

    private static void methodsAreShort(String code) {
        int length = 0;
        for (String row : code.split("\n")) {
            // A method's own lines stand deeper than its head, which ends with a brace; so does its last one.
            boolean head = row.matches("( {4}| {8})[\\w<].*\\) \\{");
            length = head ? 1 : length + 1;
            if (row.matches("( {4}| {8})\\}")) {
                due.isTrue("at most sixty lines", length <= 60);
                length = 0;
            }
        }
    }
}
