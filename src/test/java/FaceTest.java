import java.io.IOException;
import java.lang.reflect.Array;
import java.lang.reflect.Constructor;
import java.lang.reflect.Field;
import java.lang.reflect.Method;
import java.lang.reflect.Modifier;
import java.nio.file.Files;
import java.nio.file.Path;
import java.util.ArrayList;
import java.util.List;
import java.util.regex.Matcher;
import java.util.regex.Pattern;

/** The class has the document's face and no other, and keeps out of what LANGUAGE.md rules out. */
public final class FaceTest {
    private static final String[] FACE = {
        "boolean now(int)", "int head(int)", "int under(int,int)", "int hand(int,int)", "int feed(int,int,int,int,int)",
        "int law(int,int,int)", "int counts(int,int)", "int number(int,int)", "int vote(int,int,int,int,int)",
        "int ceiling(int,int,int)", "int advance(int,int)", "boolean cover(int,int)", "boolean strike(int)",
        "boolean move(int,int,int)", "int commit(int,int,int,int)", "long left(int,int)",
        "int claim(int,int,int,int,int,boolean)", "boolean sign(int,int)", "int may(int)", "int pay(int)",
        "int ask(int,int,int,boolean)", "int cut(int)", "long more(int)", "boolean comes(int,int)",
        "long came(int,int,int)", "long foretold(int,int,int)", "boolean due(int,int)", "int shortWeek()",
        "int offer(int,int,int,int)", "int plan()", "long judge(int)", "int bid(int,int)", "int tender(int,boolean)",
        "boolean repay(int)", "long loan(int,int)", "int draw(int,int,int)", "int drawn(int,int)",
        "boolean test(int,int)", "long found(int,int)", "boolean question(int)", "boolean answer(int,boolean)",
        "long falls(int)", "long surcharged(int)", "boolean find(int,int)", "long paid(int,int,int)", "int close(int)",
        "int check(int,int)", "int look(int,int)", "int about(int,int)", "int count(int)", "long sum(int)"};
    private static final String[] RULED_OUT = {"throw", "throws", "try", "catch", "synchronized", "assert", "protected",
        "native", "volatile", "transient", "Exception", "Error", "Thread", "Object", "Random", "hashCode", "equals",
        "toString", "var", "yield", "System", "Exact\\w*", "\\w+Exact"};
    /** What the class uses of the library's static members and of its classes: all of it stands in rule 4. */
    private static final List<String> LIBRARY = List.of("Integer.bitCount", "Math.floorDiv", "Math.max", "Math.min",
            "Arrays.copyOf", "Arrays.fill");
    private static final List<String> STATIC_TYPES = List.of("int", "long", "boolean", "char", "String", "int[]",
            "long[]", "char[]", "byte[]");
    private static final Due DUE = new Due("FaceTest");

    private static String face(Method m) {
        StringBuilder s = new StringBuilder(m.getReturnType().getName()).append(' ').append(m.getName()).append('(');
        for (Class<?> p : m.getParameterTypes()) {
            s.append(s.charAt(s.length() - 1) == '(' ? "" : ",").append(p.getName());
        }
        return s.append(')').toString();
    }

    private static void members() {
        List<String> due = new ArrayList<>(List.of(FACE));
        List<String> names = new ArrayList<>();
        for (Method m : SupplyBook.class.getDeclaredMethods()) {
            if (Modifier.isPublic(m.getModifiers())) {
                names.add(m.getName());
                DUE.yes("in the face: " + face(m), due.remove(face(m)));
            }
        }
        DUE.is("lacking: " + due, due.size(), 0);
        for (Method m : SupplyBook.class.getDeclaredMethods()) {
            if (!Modifier.isPublic(m.getModifiers())) {
                DUE.yes("private: " + m, Modifier.isPrivate(m.getModifiers()));
                DUE.no("bears a public name: " + m, names.contains(m.getName()));
            }
            DUE.yes("parameters: " + m, m.getParameterCount() <= 7);
        }
        for (Field f : SupplyBook.class.getDeclaredFields()) {
            boolean isNone = f.getName().equals("NONE") && Modifier.isPublic(f.getModifiers());
            DUE.yes("private: " + f, isNone || Modifier.isPrivate(f.getModifiers()));
        }
        Constructor<?>[] made = SupplyBook.class.getDeclaredConstructors();
        DUE.is("constructors", made.length, 1);
        DUE.yes("public", Modifier.isPublic(made[0].getModifiers()) && made[0].getParameterCount() == 0);
        DUE.yes("final", Modifier.isFinal(SupplyBook.class.getModifiers()));
    }

    private static void nested() {
        Class<?>[] inside = SupplyBook.class.getDeclaredClasses();
        DUE.yes("at most twelve classes", inside.length + 1 <= 12);
        List<Class<?>> all = new ArrayList<>(List.of(inside));
        all.add(SupplyBook.class);
        for (Class<?> c : all) {
            boolean isOuter = c == SupplyBook.class;
            DUE.yes("static and private: " + c,
                    isOuter || Modifier.isStatic(c.getModifiers()) && Modifier.isPrivate(c.getModifiers()));
            int fields = 0;
            for (Field f : c.getDeclaredFields()) {
                boolean isStatic = Modifier.isStatic(f.getModifiers());
                fields += isStatic ? 0 : 1;
                DUE.yes("static fields are final: " + f, !isStatic || Modifier.isFinal(f.getModifiers()));
            }
            DUE.yes("at most twenty fields: " + c, fields <= 20);
            for (Method m : c.getDeclaredMethods()) {
                DUE.yes("parameters: " + m, m.getParameterCount() <= 7);
            }
        }
    }

    /** Static rows are of the types of rule 5, and as they were when much was done with books. */
    private static void statics() throws IllegalAccessException {
        List<Class<?>> all = new ArrayList<>(List.of(SupplyBook.class.getDeclaredClasses()));
        all.add(SupplyBook.class);
        String before = staticRows(all);
        SupplyBook book = Rich.book();
        book.shortWeek();
        book.law(0, 3599, Rich.TAPE_TEXT.length());
        book.pay(Rich.OPEN);
        DUE.yes("static rows stay: " + before, staticRows(all).equals(before));
    }

    private static String staticRows(List<Class<?>> all) throws IllegalAccessException {
        StringBuilder rows = new StringBuilder();
        for (Class<?> c : all) {
            for (Field f : c.getDeclaredFields()) {
                if (Modifier.isStatic(f.getModifiers())) {
                    DUE.yes("type of " + f, STATIC_TYPES.contains(f.getType().getSimpleName()));
                    f.setAccessible(true);
                    Object value = f.get(null);
                    rows.append(f.getName()).append(' ');
                    for (int i = 0; f.getType().isArray() && i < Array.getLength(value); i++) {
                        rows.append(Array.get(value, i)).append(' ');
                    }
                }
            }
        }
        return rows.toString();
    }

    private static void source() throws IOException {
        String text = Files.readString(Path.of("src/main/java/SupplyBook.java"));
        for (char c : text.toCharArray()) {
            DUE.yes("plain signs", c < 128);
        }
        String code = text.replaceAll("(?s)/\\*.*?\\*/", " ").replaceAll("//[^\n]*", " ").replaceAll("\"[^\"\n]*\"", "S");
        for (String word : RULED_OUT) {
            DUE.no("ruled out: " + word, Pattern.compile("\\b" + word + "\\b").matcher(code).find());
        }
        String names = "\\b(Integer|Long|Math|Arrays|Character|Boolean|String|Double|Short|Byte)\\s*\\.\\s*\\w+";
        Matcher used = Pattern.compile(names).matcher(code.replaceAll("import [^;]*;", ""));
        while (used.find()) {
            DUE.yes("of the library: " + used.group(), LIBRARY.contains(used.group()));
        }
        DUE.no("lambdas", code.contains("->"));
        DUE.no("method references", code.contains("::"));
        DUE.no("packages", code.contains("package "));
        DUE.no("rows of three", code.contains("[][]["));
        String imports = String.join("", code.lines().filter(l -> l.startsWith("import")).toList());
        DUE.yes("imports: " + imports, imports.equals("import java.util.Arrays;"));
        String[] lines = text.split("\n");
        for (int i = 0; i < lines.length; i++) {
            DUE.yes("long line: " + lines[i], lines[i].length() <= 120);
            if (lines[i].matches("( {4}| {8})[A-Za-z].*\\) \\{")) {
                String end = lines[i].replaceAll("[^ ].*", "") + "}";
                int last = i;
                while (!lines[last].equals(end)) {
                    last++;
                }
                DUE.yes("long method: " + lines[i], last - i <= 60);
            }
        }
    }

    public static void main(String[] args) throws IOException, IllegalAccessException {
        members();
        nested();
        statics();
        source();
        DUE.end();
    }
}
