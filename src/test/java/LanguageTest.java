import java.io.IOException;
import java.lang.reflect.Constructor;
import java.lang.reflect.Field;
import java.lang.reflect.Method;
import java.lang.reflect.Modifier;
import java.nio.file.Files;
import java.nio.file.Path;
import java.util.ArrayList;
import java.util.Arrays;
import java.util.List;
import java.util.TreeSet;
import java.util.regex.Matcher;
import java.util.regex.Pattern;

/** Those rules of LANGUAGE.md that a look at the source and at the class can tell. */
public final class LanguageTest {
    private static final String FACE = "feed(int,long) house() fault() told(int) room(int,int,int) person(int,int) friends(int,int) "
        + "law(int) put(int,int,int) leave(int) bend(int,int) first(int,int) bow(int) year(int) come(int,int,int) "
        + "party(int,int,int) feast(int,int) cuts(int,int) till() seen(int,int) write(int,int,int) tear() judge(int) "
        + "drift(int) empty() seed(int) keep(int) goBack(int)";
    private static final String NEVER = "throw|throws|try|catch|finally|synchronized|assert|import|package|native|volatile|"
        + "Thread|Random|Object|Exception|Error|var|yield";

    private LanguageTest() {
    }

    public static void main(String[] args) throws IOException {
        face();
        nestedClasses();
        String source = Files.readString(Path.of("src/main/java/LowHeads.java"));
        words(source.replaceAll("(?s)/\\*.*?\\*/", "").replaceAll("//[^\n]*", ""));
        methods(source.split("\n"));
        Check.end();
    }

    private static void face() {
        TreeSet<String> open = new TreeSet<>();
        TreeSet<String> hidden = new TreeSet<>();
        for (Method m : LowHeads.class.getDeclaredMethods()) {
            if (Modifier.isPrivate(m.getModifiers())) {
                hidden.add(m.getName());
                continue;
            }
            List<String> types = new ArrayList<>();
            for (Class<?> type : m.getParameterTypes()) {
                types.add(type.getName());
            }
            Check.same("1 what " + m.getName() + " answers", m.getReturnType() + " " + (m.getModifiers() & Modifier.PUBLIC), "int 1");
            open.add(m.getName() + "(" + String.join(",", types) + ")");
        }
        Check.same("1 the methods", open.toString(), new TreeSet<>(Arrays.asList(FACE.split(" "))).toString());
        for (String call : FACE.split(" ")) {
            Check.due("1 private " + call, hidden.contains(call.substring(0, call.indexOf('('))) ? 1 : 0, 0);
        }
        TreeSet<String> fields = new TreeSet<>();
        for (Field f : LowHeads.class.getDeclaredFields()) {
            if (!Modifier.isPrivate(f.getModifiers())) {
                fields.add(f.getName());
            }
            Check.due("5 static " + f.getName(), Modifier.isStatic(f.getModifiers()) && !Modifier.isFinal(f.getModifiers()) ? 1 : 0, 0);
        }
        Check.same("1 the constants", fields.toString(), "[FULL, NONE, NOT, OUTSIDE, UNKNOWN]");
        Constructor<?>[] made = LowHeads.class.getDeclaredConstructors();
        Check.due("1 one constructor", made.length, 1);
        Check.due("1 without parameters", made[0].getParameterCount(), 0);
        Check.due("1 public", made[0].getModifiers() & Modifier.PUBLIC, 1);
        Check.due("1 final", LowHeads.class.getModifiers() & (Modifier.FINAL | Modifier.PUBLIC), Modifier.FINAL | Modifier.PUBLIC);
    }

    private static void nestedClasses() {
        Class<?>[] inside = LowHeads.class.getDeclaredClasses();
        Check.due("11 at most twelve classes", inside.length <= 11 ? 1 : 0, 1);
        for (Class<?> c : inside) {
            Check.due("2 static " + c.getName(), c.getModifiers() & Modifier.STATIC, Modifier.STATIC);
            int fields = 0;
            for (Field f : c.getDeclaredFields()) {
                fields += Modifier.isStatic(f.getModifiers()) ? 0 : 1;
            }
            Check.due("11 at most twenty fields in " + c.getName(), fields <= 20 ? 1 : 0, 1);
            for (Method m : c.getDeclaredMethods()) {
                boolean taken = (" " + FACE).contains(" " + m.getName() + "(");
                Check.due("1 the name " + m.getName(), taken ? 1 : 0, 0);
            }
        }
    }

    private static void words(String code) {
        Matcher m = Pattern.compile("\\b(" + NEVER + ")\\b|->|::|\" \\+|\\+ \"").matcher(code);
        while (m.find()) {
            Check.due("4, 6 '" + m.group() + "' stands in the code", 1, 0);
        }
        m = Pattern.compile("\\b(String|Math|Integer|System|Arrays|Long)\\.(\\w+)").matcher(code);
        TreeSet<String> used = new TreeSet<>();
        while (m.find()) {
            used.add(m.group());
        }
        used.removeAll(List.of("Math.max", "Math.min", "Math.abs", "Integer.bitCount", "System.arraycopy"));
        Check.same("4 the library", used.toString(), "[]");
        for (int i = 0; i < code.length(); i++) {
            Check.due("4 sign " + i, code.charAt(i) < 127 ? 1 : 0, 1);
        }
    }

    private static void methods(String[] lines) {
        Pattern head = Pattern.compile("^( +)(?!.*\\b(class|record|enum|interface)\\b)[\\w\\[\\] ]+\\(([^()]*)\\) \\{$");
        for (int i = 0; i < lines.length; i++) {
            Matcher m = head.matcher(lines[i]);
            if (m.matches() && !lines[i].matches(" +(if|for|while|switch|else).*")) {
                int end = i;
                while (end < lines.length && !lines[end].equals(m.group(1) + "}")) {
                    end++;
                }
                Check.due("11 lines of" + lines[i], end - i <= 60 ? 1 : 0, 1);
                Check.due("11 parameters of" + lines[i], m.group(3).split(",").length <= 7 ? 1 : 0, 1);
            }
        }
    }
}
