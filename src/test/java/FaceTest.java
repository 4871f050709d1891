import java.io.IOException;
import java.lang.reflect.Array;
import java.lang.reflect.Constructor;
import java.lang.reflect.Field;
import java.lang.reflect.Method;
import java.lang.reflect.Modifier;
import java.nio.file.Files;
import java.nio.file.Path;
import java.util.HashSet;
import java.util.List;
import java.util.Set;
import java.util.TreeSet;
import java.util.regex.Matcher;
import java.util.regex.Pattern;

/** The public face of the document, and those rules of ../shared/LANGUAGE.md that a look at the source tells. */
public final class FaceTest {
    private static final String[] FACE = {"int feed(int,int,int,int,int)", "boolean end(int)", "int text()",
        "int fault(int)", "int has(int)", "int letter(int,int,int)", "int price(int,int,boolean)",
        "int beats(int,int)", "int leads(int)", "int change(int,int,int)", "long changed(boolean)", "long rows()",
        "long unsure(boolean)", "int maybe(int,int)", "int front(int,int,int)", "int loss(int,int)", "int who(int)",
        "int knot(int,int)", "boolean grid(int)", "int corner(int)", "int weight(int,int)", "int near(int)",
        "int standIns(int)", "int kept(int)", "int cost(int,int,int,boolean)", "int hole(int)",
        "int rather(int,int)", "int unsay()", "int agree()", "long could()", "int question(int)", "int quarrel()",
        "int stop(int)", "boolean person(int,int,int,int,int)", "boolean bar(int,int,boolean)", "int choose(int)",
        "int breaks(int)", "int place(int,int)"};
    /** No word of these may stand in the program, outside its comments. */
    private static final List<String> REFUSED = List.of("package", "import", "try", "catch", "throw", "throws",
            "synchronized", "assert", "instanceof", "finally", "native", "protected", "volatile", "transient",
            "System.out", "System.exit", "System.nanoTime", "Object", "Thread", "Random", "hashCode", "toString", "->", "::",
            "static {");

    private FaceTest() {
    }

    public static void main(String[] args) throws IOException {
        face();
        nested();
        String source = withoutComments(Files.readString(Path.of("src/main/java/UnbeatenHouse.java")));
        words(source);
        library(source);
        methods(source);
        madeWithTheObject(source);
        roomOfAnObject();
        Check.finish("FaceTest");
    }

    private static String told(Method method) {
        StringBuilder t = new StringBuilder(method.getReturnType().getName()).append(' ').append(method.getName());
        t.append('(');
        for (Class<?> type : method.getParameterTypes()) {
            t.append(t.charAt(t.length() - 1) == '(' ? "" : ",").append(type.getName());
        }
        return t.append(')').toString();
    }

    private static void face() {
        Class<?> house = UnbeatenHouse.class;
        Check.due("public and final", house.getModifiers(), Modifier.PUBLIC | Modifier.FINAL);
        Check.due("NONE", UnbeatenHouse.NONE, -1);
        Set<String> due = new TreeSet<>(List.of(FACE));
        Set<String> names = new HashSet<>();
        for (Method method : house.getDeclaredMethods()) {
            if (Modifier.isPublic(method.getModifiers())) {
                Check.due("of the face: " + told(method), due.remove(told(method)), true);
                Check.due("of an object: " + told(method), Modifier.isStatic(method.getModifiers()), false);
                names.add(method.getName());
            }
        }
        Check.due("not there: " + due, due.size(), 0);
        for (Constructor<?> made : house.getDeclaredConstructors()) {
            Check.due("the constructor", made.getModifiers() == Modifier.PUBLIC && made.getParameterCount() == 0, true);
        }
        for (Field field : house.getDeclaredFields()) {
            boolean known = field.getName().equals("NONE");
            Check.due("field " + field.getName(), Modifier.isPrivate(field.getModifiers()), !known);
            fieldIsFixed(field);
        }
        notNamedSo(house, names);
        for (Class<?> inside : house.getDeclaredClasses()) {
            notNamedSo(inside, names);
        }
    }

    private static void notNamedSo(Class<?> type, Set<String> names) {
        for (Method method : type.getDeclaredMethods()) {
            if (type != UnbeatenHouse.class || !Modifier.isPublic(method.getModifiers())) {
                Check.due("name of " + method, names.contains(method.getName()), false);
            }
            if (type == UnbeatenHouse.class && !method.isSynthetic()) {
                int shown = method.getModifiers() & (Modifier.PUBLIC | Modifier.PRIVATE);
                Check.due("seen: " + method, shown != 0, true);
            }
            Check.due("parameters of " + method, method.getParameterCount() <= 7, true);
        }
    }

    private static void fieldIsFixed(Field field) {
        if (Modifier.isStatic(field.getModifiers())) {
            Check.due("final: " + field, Modifier.isFinal(field.getModifiers()), true);
        }
    }

    private static void nested() {
        Class<?>[] inside = UnbeatenHouse.class.getDeclaredClasses();
        Check.due("some twelve classes: " + inside.length, inside.length <= 12, true);
        for (Class<?> type : inside) {
            Check.due("static: " + type, Modifier.isStatic(type.getModifiers()), true);
            Check.due("not public: " + type, Modifier.isPublic(type.getModifiers()), false);
            int fields = 0;
            for (Field field : type.getDeclaredFields()) {
                fields += Modifier.isStatic(field.getModifiers()) ? 0 : 1;
                fieldIsFixed(field);
            }
            Check.due("some twenty fields: " + type, fields <= 20, true);
        }
    }

    private static String withoutComments(String source) {
        return source.replaceAll("(?s)/\\*.*?\\*/", "").replaceAll("//[^\n]*", "");
    }

    private static void words(String source) {
        for (String word : REFUSED) {
            boolean letters = Character.isLetter(word.charAt(0));
            Pattern pattern = Pattern.compile(letters ? "\\b" + Pattern.quote(word) + "(?![A-Za-z])" : Pattern.quote(word));
            Check.due("stands in the program: " + word, pattern.matcher(source).find(), false);
        }
        Check.due("float or double", Pattern.compile("\\b(float|double)\\b").matcher(source).find(), false);
        for (int i = 0; i < source.length(); i++) {
            if (source.charAt(i) > 126) {
                Check.due("sign " + (int) source.charAt(i), 1, 0);
            }
        }
    }

    /** Every call of a library class is one that the rules list. */
    private static void library(String source) {
        Set<String> allowed = Set.of("Math.min", "Math.max", "Math.floorDiv", "Integer.bitCount",
                "Long.bitCount", "Long.numberOfTrailingZeros", "System.arraycopy");
        Matcher m = Pattern.compile("\\b(Math|Integer|Long|System|Arrays|String|Character|List|ArrayList)\\.(\\w+)")
                .matcher(source);
        while (m.find()) {
            Check.due("library: " + m.group(), allowed.contains(m.group()), true);
        }
    }

    /** Methods of some sixty lines at most, told by their indentation. */
    private static void methods(String source) {
        String[] lines = source.split("\n");
        for (String indent : List.of("    ", "        ")) {
            int start = -1;
            for (int i = 0; i < lines.length; i++) {
                if (lines[i].matches(indent + "[a-z].*\\) \\{")) {
                    start = i;
                }
                if (lines[i].equals(indent + "}") && start >= 0) {
                    Check.due("lines of " + lines[start].trim(), i - start < 60, true);
                    start = -1;
                }
            }
        }
    }

    /** Nothing is made but with an object: what stands behind new is what a field begins with. */
    private static void madeWithTheObject(String source) {
        Matcher m = Pattern.compile("[^\n]*\\bnew\\b[^\n]*").matcher(source);
        int made = 0;
        while (m.find()) {
            made++;
            boolean field = m.group().matches("    ( {4})?private (final )?\\S+ \\w+ = new .*;");
            Check.due("a field: " + m.group().trim(), field, true);
        }
        Check.due("some are made", made > 10, true);
    }

    /** A run has a room of some 7.3 million fields and elements for all its objects. */
    private static void roomOfAnObject() {
        int[] room = new int[2];
        count(new UnbeatenHouse(), room);
        Check.due("objects and arrays: " + room[0], room[0] < 100, true);
        Check.due("fields and elements: " + room[1], room[1] < 60000, true);
    }

    private static void count(Object object, int[] room) {
        room[0]++;
        if (object.getClass().isArray()) {
            room[1] += Array.getLength(object);
            return;
        }
        for (Field field : object.getClass().getDeclaredFields()) {
            if (!Modifier.isStatic(field.getModifiers())) {
                room[1]++;
                countBehind(field, object, room);
            }
        }
    }

    private static void countBehind(Field field, Object object, int[] room) {
        if (field.getType().isPrimitive()) {
            return;
        }
        try {
            field.setAccessible(true);
            count(field.get(object), room);
        } catch (IllegalAccessException e) {
            Check.due("a field that can't be read: " + field, 1, 0);
        }
    }
}
