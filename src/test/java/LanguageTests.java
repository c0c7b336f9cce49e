import java.lang.reflect.Array;
import java.lang.reflect.Constructor;
import java.lang.reflect.Field;
import java.lang.reflect.Method;
import java.lang.reflect.Modifier;
import java.nio.file.Files;
import java.nio.file.Path;
import java.util.ArrayList;
import java.util.HashSet;
import java.util.List;
import java.util.Set;
import java.util.TreeSet;
import java.util.regex.Matcher;
import java.util.regex.Pattern;

/** The rules of LANGUAGE.md that words and reflection can see, and the public face of the document. */
public final class LanguageTests {
    private static final String FACE = "int fair(int) int weigh(int,int) int question(int,int,int) int price(int,int) "
            + "int type(int) int clear() int read() int ask(int,int) int forget() int undo() int of(int,int) "
            + "int answer(int,int) int left() int cuts(int,int) int empty() int same(int) int best() int atOnce(int) "
            + "int oneByOne(int) int oneWrong() int knows(int,int,int) int parted(int) int row(int) int bestRow() "
            + "int haggle(int) int stalls(int,int) long part(int) int image(int) int from(int) int status(int) "
            + "int count(int) long digest()";
    private static int wrong = 0;

    private static void must(boolean holds, String rule) {
        if (!holds) {
            wrong++;
            System.out.println("broken: " + rule);
        }
    }

    private static Set<String> dueFace() {
        Set<String> all = new TreeSet<>();
        Matcher m = Pattern.compile("(int|long) \\w+\\([a-z,]*\\)").matcher(FACE);
        while (m.find()) {
            all.add(m.group());
        }
        return all;
    }

    private static void theFace() {
        Class<?> fair = QuestionFair.class;
        must(Modifier.isPublic(fair.getModifiers()) && Modifier.isFinal(fair.getModifiers()), "public final class");
        Set<String> face = new TreeSet<>();
        Set<String> publicNames = new HashSet<>();
        for (Method m : fair.getDeclaredMethods()) {
            if (Modifier.isPublic(m.getModifiers())) {
                List<String> types = new ArrayList<>();
                for (Class<?> type : m.getParameterTypes()) {
                    types.add(type.getName());
                }
                face.add(m.getReturnType().getName() + " " + m.getName() + "(" + String.join(",", types) + ")");
                publicNames.add(m.getName());
            }
        }
        must(face.equals(dueFace()), "the face is " + face);
        for (Method m : fair.getDeclaredMethods()) {
            boolean shown = Modifier.isPublic(m.getModifiers());
            must(shown || Modifier.isPrivate(m.getModifiers()), "1: visible member " + m);
            must(shown || !publicNames.contains(m.getName()), "1: private method with a public name " + m);
        }
        for (Constructor<?> c : fair.getDeclaredConstructors()) {
            must(Modifier.isPublic(c.getModifiers()) && c.getParameterCount() == 0, "1: constructor " + c);
        }
        Set<String> constants = new TreeSet<>();
        for (Field f : fair.getDeclaredFields()) {
            if (Modifier.isPublic(f.getModifiers())) {
                constants.add(f.getName());
            } else {
                must(Modifier.isPrivate(f.getModifiers()), "1: visible field " + f);
            }
        }
        must(constants.equals(new TreeSet<>(List.of("NONE", "BAD", "NO", "FULL"))), "1: constants " + constants);
        must(fair.getDeclaredClasses().length < 12, "11: too many classes");
        classInside(fair, publicNames);
        for (Class<?> inside : fair.getDeclaredClasses()) {
            must(Modifier.isStatic(inside.getModifiers()), "2: not static " + inside);
            classInside(inside, publicNames);
        }
    }

    private static void classInside(Class<?> one, Set<String> publicNames) {
        int fields = 0;
        for (Field f : one.getDeclaredFields()) {
            if (Modifier.isStatic(f.getModifiers())) {
                must(Modifier.isFinal(f.getModifiers()), "5: static field " + f);
            } else {
                fields++;
            }
        }
        must(fields <= 20, "11: too many fields in " + one);
        for (Method m : one.getDeclaredMethods()) {
            must(m.getParameterCount() <= 7, "11: too many parameters of " + m);
            must(one == QuestionFair.class || !publicNames.contains(m.getName()), "1: a public name again " + m);
        }
    }

    private static void theWords(String source) {
        String bare = source.replaceAll("(?s)/\\*.*?\\*/", " ").replaceAll("//[^\n]*", " ")
                .replaceAll("\"[^\"\n]*\"", "\"\"").replaceAll("'[^'\n]+'", "' '");
        String[] forbidden = {
            "throw", "throws", "try", "catch", "finally", "synchronized", "assert", "import", "package", "protected",
            "volatile", "transient", "native", "hashCode", "toString", "equals", "Random", "Thread", "record",
            "Exception", "Error", "Object", "Runtime",
        };
        for (String word : forbidden) {
            must(!Pattern.compile("\\b" + word + "\\b").matcher(bare).find(), "6: the word " + word);
        }
        must(!bare.contains("->") && !bare.contains("::"), "2: a lambda or a method reference");
        must(!bare.contains("@"), "an annotation");
        must(!Pattern.compile("\\w+Exact\\b").matcher(bare).find(), "4: a function of the Exact ones");
        must(!Pattern.compile("static\\s*\\{").matcher(bare).find(), "5: a static block");
        Matcher calls = Pattern.compile("\\b(System|Math|Integer|Long|Arrays|String)\\.(\\w+)").matcher(bare);
        Set<String> fine = Set.of("System.arraycopy", "Math.max", "Math.min", "Math.floorMod", "Integer.bitCount");
        while (calls.find()) {
            must(fine.contains(calls.group()), "4: the library's " + calls.group());
        }
        for (int i = 0; i < source.length(); i++) {
            must(source.charAt(i) < 128, "3: a sign beyond 127 at " + i);
        }
    }

    /** No object in a method: what a run makes is made by constructors alone. */
    private static void objectsAreMadeOnce(String source) {
        for (String line : source.split("\n")) {
            if (line.contains(" new ")) {
                must(line.contains("final ") && line.trim().endsWith(";"), "12: an object made in " + line.trim());
            }
        }
    }

    /** Methods make nothing, so the room of a run is what its objects have: some hundreds of them must find place. */
    private static void anObjectIsSmall() throws Exception {
        long[] room = new long[2];
        walk(new QuestionFair(), room, 0);
        must(room[0] <= 60, "the room: " + room[0] + " objects and arrays in one QuestionFair");
        must(room[1] <= 6000, "the room: " + room[1] + " fields and elements in one QuestionFair");
    }

    private static void walk(Object one, long[] room, int depth) throws Exception {
        must(depth < 10, "the room: objects far inside one another");
        room[0]++;
        if (one.getClass().isArray()) {
            room[1] += Array.getLength(one);
            must(one.getClass().getComponentType().isPrimitive(), "the room: an array of objects is not counted");
            return;
        }
        for (Field f : one.getClass().getDeclaredFields()) {
            if (!Modifier.isStatic(f.getModifiers())) {
                room[1]++;
                f.setAccessible(true);
                Object inside = f.getType().isPrimitive() ? null : f.get(one);
                if (inside != null && depth < 10) {
                    walk(inside, room, depth + 1);
                }
            }
        }
    }

    private static void methodsStayShort(String source) {
        int since = 0;
        String[] lines = source.split("\n");
        for (int i = 0; i < lines.length; i++) {
            if (lines[i].matches("( {4}| {8})[a-z].*\\) \\{")) {
                since = i;
            }
            if (lines[i].matches("( {4}| {8})\\}")) {
                must(i - since <= 60 || lines[since].contains("class"), "11: a long method at line " + (since + 1));
            }
        }
    }

    public static void main(String[] args) throws Exception {
        theFace();
        String source = Files.readString(Path.of("src/main/java/QuestionFair.java"));
        theWords(source);
        objectsAreMadeOnce(source);
        anObjectIsSmall();
        methodsStayShort(source);
        System.out.println(wrong == 0 ? "the language is kept to" : wrong + " rules are broken");
        if (wrong != 0) {
            System.exit(1);
        }
    }
}
