import java.io.IOException;
import java.lang.reflect.Constructor;
import java.lang.reflect.Field;
import java.lang.reflect.Method;
import java.lang.reflect.Modifier;
import java.nio.file.Files;
import java.nio.file.Path;
import java.util.Arrays;
import java.util.List;
import java.util.Set;
import java.util.TreeSet;
import java.util.regex.Matcher;
import java.util.regex.Pattern;

/** The face of the class, and rules of LANGUAGE.md that can be seen from outside or from the text. */
public final class LanguageTest {
    private static final String[] FACE = {
        "int feed(int, int, int, int, int)", "boolean end(int)", "boolean log(int, int, int, int, int)",
        "boolean tone(int, int, int)", "int flaw(int, int, int, int, int, int)", "boolean drift(int, int, int, int)",
        "int leaf(int, int, int)", "int hit(int, int, int, int, int, int)", "int door(int, int, int, int)",
        "int fault(int)", "int of(int, int)", "int piece(int, int, int)", "int joint(int, int, int, boolean)",
        "int same(int, int, int)", "int why(int, int, int, int, int)", "int place(int, int, int)",
        "int make(int, int)", "int plan()", "int planned(int)", "boolean free(int)",
    };

    private static int wrong;

    public static void main(String[] args) throws IOException {
        face();
        nestedClasses();
        source(code(Files.readString(Path.of("src/main/java/VeneerDesk.java"))));
        System.out.println(wrong == 0 ? "the language is kept to" : wrong + " rules are not kept to");
        if (wrong != 0) {
            System.exit(1);
        }
    }

    private static void due(String rule, boolean kept) {
        if (!kept) {
            wrong++;
            System.out.println("not kept: " + rule);
        }
    }

    private static void face() {
        Class<?> desk = VeneerDesk.class;
        due("1: public and final", Modifier.isPublic(desk.getModifiers()) && Modifier.isFinal(desk.getModifiers()));
        Set<String> open = new TreeSet<>();
        for (Method method : desk.getDeclaredMethods()) {
            if (!Modifier.isPrivate(method.getModifiers())) {
                open.add(told(method));
                due("1: public, not static: " + method, method.getModifiers() == Modifier.PUBLIC);
            }
        }
        Set<String> want = new TreeSet<>(Arrays.asList(FACE));
        due("1: the methods of the document and no other, but there are " + open, open.equals(want));
        for (Field field : desk.getDeclaredFields()) {
            boolean none = field.getName().equals("NONE") && field.getType() == int.class
                && field.getModifiers() == (Modifier.PUBLIC | Modifier.STATIC | Modifier.FINAL);
            due("1: no open field: " + field, none || Modifier.isPrivate(field.getModifiers()));
        }
        Constructor<?>[] constructors = desk.getDeclaredConstructors();
        due("1: one public constructor without arguments", constructors.length == 1
            && constructors[0].getParameterCount() == 0 && constructors[0].getModifiers() == Modifier.PUBLIC);
    }

    private static String told(Method method) {
        StringBuilder text = new StringBuilder();
        for (Class<?> type : method.getParameterTypes()) {
            text.append(text.length() == 0 ? "" : ", ").append(type.getName());
        }
        return method.getReturnType().getName() + " " + method.getName() + "(" + text + ")";
    }

    private static void nestedClasses() {
        Set<String> names = new TreeSet<>();
        for (Method method : VeneerDesk.class.getMethods()) {
            names.add(method.getName());
        }
        Class<?>[] classes = VeneerDesk.class.getDeclaredClasses();
        due("11: at most twelve classes", classes.length < 12);
        for (Class<?> inside : classes) {
            due("2: static: " + inside, Modifier.isStatic(inside.getModifiers()));
            due("1: private or package-visible: " + inside, !Modifier.isPublic(inside.getModifiers()));
            int fields = 0;
            for (Field field : inside.getDeclaredFields()) {
                boolean fixed = Modifier.isStatic(field.getModifiers());
                fields += fixed ? 0 : 1;
                due("5: static fields are final: " + field, !fixed || Modifier.isFinal(field.getModifiers()));
            }
            due("11: some twenty fields: " + inside, fields <= 20);
            for (Method method : inside.getDeclaredMethods()) {
                due("1: no other method has a public one's name: " + method, !names.contains(method.getName()));
                due("11: at most seven parameters: " + method, method.getParameterCount() <= 7);
            }
        }
    }

    /** The source without its comments and character constants. */
    private static String code(String source) {
        return source.replaceAll("(?s)/\\*.*?\\*/", "").replaceAll("//[^\n]*", "").replaceAll("'.'", "' '");
    }

    private static void source(String code) {
        List<String> refused = List.of("throw", "throws", "try", "catch", "finally", "synchronized", "assert",
            "package", "native", "volatile", "transient", "record", "yield", "var", "Random", "System.out",
            "System.nanoTime", "System.currentTimeMillis", "Thread", "Object", "equals", "hashCode", "toString");
        for (String word : refused) {
            due("6, 13: no " + word, !Pattern.compile("\\b" + Pattern.quote(word) + "\\b").matcher(code).find());
        }
        due("2: no lambda, no method reference", !code.contains("->") && !code.contains("::"));
        due("7: no divisor", !Pattern.compile("[/%]").matcher(code).find());
        Matcher imports = Pattern.compile("import ([^;]*);").matcher(code);
        while (imports.find()) {
            due("4: import " + imports.group(1), imports.group(1).equals("java.util.Arrays"));
        }
        Matcher calls = Pattern.compile("\\b(Arrays|System|Math|Integer|Long)\\.(\\w+)").matcher(code);
        Set<String> library = Set.of("Arrays.fill", "System.arraycopy", "Math.min", "Math.max", "Math.abs", "Integer.bitCount");
        while (calls.find()) {
            due("4: " + calls.group(), library.contains(calls.group()));
        }
        methodsStayShort(code);
    }

    private static void methodsStayShort(String code) {
        int start = -1;
        int line = 0;
        for (String text : code.split("\n")) {
            line++;
            if (text.matches(" {4,8}(public|private|static|int|long|boolean|void|[A-Z]\\w*)\\b.*\\) \\{")) {
                start = line;
            }
            if (start >= 0 && text.matches(" {4,8}\\}")) {
                due("11: a method of " + (line - start) + " lines ends at line " + line, line - start <= 60);
                start = -1;
            }
        }
    }
}
