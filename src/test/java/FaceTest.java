import java.io.IOException;
import java.lang.reflect.Constructor;
import java.lang.reflect.Field;
import java.lang.reflect.Method;
import java.lang.reflect.Modifier;
import java.nio.file.Files;
import java.nio.file.Path;
import java.util.Set;
import java.util.TreeSet;
import java.util.regex.Matcher;
import java.util.regex.Pattern;

/** The public face, and the rules of LANGUAGE.md that can be seen without running anything. */
public final class FaceTest {
    private static final String[] METHODS = {
        "boolean begin(int,int)", "int ko(int)", "int feed(int,int,int,int,int)", "int end(int)", "int read()",
        "int place()", "int write()", "int octet(int)", "int let(int)", "int play(int)", "int back(int)",
        "boolean on(int)", "boolean to(int)", "int node(int,int)", "int at(int)", "int chain(int,int)",
        "int liberty(int,int)", "int region(int,int,int)", "int ladder(int)", "int steps(int)",
        "int dead(int,boolean)", "int score(int,int)", "int ahead(int)", "boolean clocks(int,int,int)",
        "int clock(int,int)", "int time(int,int)", "int count(int)",
    };
    private static final String[] BARRED = {
        "throw", "try", "catch", "synchronized", "assert", "->", "::", "package", "HashMap", "Exact", "static {",
    };

    private final Check check = new Check();

    public static void main(String[] args) throws IOException {
        FaceTest test = new FaceTest();
        test.face();
        test.statics(StoneRoom.class);
        for (Class<?> inner : StoneRoom.class.getDeclaredClasses()) {
            test.statics(inner);
            test.inner(inner);
        }
        test.check.due("classes inside", StoneRoom.class.getDeclaredClasses().length <= 12, true);
        String source = Files.readString(Path.of(args.length > 0 ? args[0] : "src/main/java/StoneRoom.java"));
        test.words(source);
        test.library(source);
        test.lengths(source);
        test.check.close("FaceTest");
    }

    private static String told(Method method) {
        StringBuilder text = new StringBuilder(method.getReturnType() + " " + method.getName() + "(");
        for (Class<?> type : method.getParameterTypes()) {
            text.append(text.charAt(text.length() - 1) == '(' ? "" : ",").append(type);
        }
        return text.append(")").toString();
    }

    private static Set<String> publicNames() {
        Set<String> names = new TreeSet<>();
        for (String method : METHODS) {
            names.add(method.replaceAll(".* (\\w+)\\(.*", "$1"));
        }
        return names;
    }

    private void face() {
        check.due("NONE", StoneRoom.NONE, -1);
        int of = StoneRoom.class.getModifiers();
        check.due("the class is public and final", Modifier.isPublic(of) && Modifier.isFinal(of), true);
        Set<String> want = new TreeSet<>(Set.of(METHODS));
        Set<String> names = publicNames();
        for (Method method : StoneRoom.class.getDeclaredMethods()) {
            if (Modifier.isPrivate(method.getModifiers())) {
                check.due("a private " + method.getName(), names.contains(method.getName()), false);
            } else {
                check.due("a method of the face: " + told(method), want.remove(told(method)), true);
                check.due("it is public and of the object", method.getModifiers(), Modifier.PUBLIC);
            }
        }
        check.due("methods that are missing: " + want, want.size(), 0);
        Constructor<?>[] makers = StoneRoom.class.getDeclaredConstructors();
        check.due("one constructor", makers.length, 1);
        check.due("public", Modifier.isPublic(makers[0].getModifiers()), true);
        for (Field field : StoneRoom.class.getDeclaredFields()) {
            boolean seen = !Modifier.isPrivate(field.getModifiers());
            check.due("field " + field.getName(), seen, field.getName().equals("NONE"));
        }
    }

    private void statics(Class<?> type) {
        int fields = 0;
        for (Field field : type.getDeclaredFields()) {
            if (Modifier.isStatic(field.getModifiers())) {
                check.due("final: " + field, Modifier.isFinal(field.getModifiers()), true);
            } else {
                fields++;
            }
        }
        check.due("fields of " + type + ": " + fields, fields <= 20, true);
    }

    private void inner(Class<?> type) {
        check.due("static: " + type, Modifier.isStatic(type.getModifiers()), true);
        check.due("classes inside " + type, type.getDeclaredClasses().length, 0);
        Set<String> names = publicNames();
        for (Method method : type.getDeclaredMethods()) {
            check.due("parameters of " + method, method.getParameterCount() <= 7, true);
            check.due("private: " + method, Modifier.isPrivate(method.getModifiers()), true);
            check.due("bears a public one's name: " + method, names.contains(method.getName()), false);
        }
    }

    private void words(String source) {
        String bare = source.replaceAll("(?s)/\\*.*?\\*/", "").replaceAll("//[^\n]*", "");
        for (String word : BARRED) {
            String quoted = Pattern.quote(word);
            String pattern = word.matches("\\w+") ? "\\b" + quoted + "\\b" : quoted;
            Matcher matcher = Pattern.compile(pattern).matcher(bare);
            check.due("the word " + word, matcher.find(), false);
        }
        int imports = 0;
        Matcher matcher = Pattern.compile("(?m)^import (.*);$").matcher(source);
        while (matcher.find()) {
            imports++;
            check.due("import " + matcher.group(1), matcher.group(1).equals("java.util.Arrays"), true);
        }
        check.due("imports", imports <= 1, true);
    }

    /** Calls on a name with a great letter ahead are the library's: none but these is made. */
    private void library(String source) {
        Set<String> fine = Set.of("Arrays.fill", "Math.max", "Math.min", "Math.abs", "Long.bitCount",
            "System.arraycopy");
        Matcher matcher = Pattern.compile("\\b([A-Z]\\w*\\.\\w+)\\(").matcher(source);
        while (matcher.find()) {
            check.due("of the library: " + matcher.group(1), fine.contains(matcher.group(1)), true);
        }
    }

    private void lengths(String source) {
        String[] lines = source.split("\n");
        for (int i = 0; i < lines.length; i++) {
            if (lines[i].matches(" {4,8}(public|private) .*\\) \\{")) {
                String closing = lines[i].replaceAll("\\S.*", "") + "}";
                int end = i;
                while (end < lines.length && !lines[end].equals(closing)) {
                    end++;
                }
                check.due("lines of" + lines[i] + " " + (end - i + 1), end - i < 60, true);
            }
        }
    }
}
