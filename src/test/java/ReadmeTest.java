import java.io.IOException;
import java.net.URL;
import java.net.URLClassLoader;
import java.nio.file.Files;
import java.nio.file.Path;
import java.util.ArrayList;
import java.util.Comparator;
import java.util.List;
import java.util.TreeSet;
import java.util.function.Supplier;
import java.util.regex.Matcher;
import java.util.regex.Pattern;
import java.util.stream.Stream;
import javax.tools.ToolProvider;

/** What README.md shows: its pieces of Java answer what stands behind them, and all that it names is there. */
public final class ReadmeTest {
    private static final Pattern PIECE = Pattern.compile("```(\\w+)\n(.*?)```", Pattern.DOTALL);
    private static final Pattern SHOWN = Pattern.compile("(x\\.\\w+\\(.*\\)); +// (-?[0-9]+|NONE|UNKNOWN|OUTSIDE|NOT|FULL)\\b.*");
    private static final Pattern ROW = Pattern.compile("\\| `(\\w+)\\(([^)]*)\\)` \\|[^|]*\\|([^|]*)\\|");
    private static final Pattern TEST = Pattern.compile("\\b[A-Z]\\w+Test\\b");

    private final List<String> calls = new ArrayList<>();
    private final List<Integer> wanted = new ArrayList<>();

    private ReadmeTest() {
    }

    public static void main(String[] args) throws Exception {
        String page = Files.readString(Path.of("README.md"));
        new ReadmeTest().runPieces(page);
        allCalls(page);
        allNames(page);
        commands(page);
        Check.end();
    }

    /** The pieces are one program, in which a line with a due answer gives its answer to a list. */
    private void runPieces(String page) throws Exception {
        StringBuilder body = new StringBuilder();
        for (String line : pieces(page, "java").split("\n")) {
            Matcher shown = SHOWN.matcher(line);
            if (shown.matches()) {
                calls.add(shown.group(1));
                wanted.add(number(shown.group(2)));
                body.append("answers.add(").append(shown.group(1)).append(");\n");
            } else {
                Check.due("README, an answer that cannot be read in '" + line + "'", line.indexOf("//"), -1);
                body.append(line).append('\n');
            }
        }
        List<Integer> answers = answersOf(body.toString());
        Check.due("README, answers", answers.size(), wanted.size());
        for (int k = 0; k < answers.size(); k++) {
            Check.due("README, " + calls.get(k), answers.get(k), wanted.get(k));
        }
        Check.due("README, some answers are shown", calls.size() > 30 ? 1 : 0, 1);
    }

    private static String pieces(String page, String language) {
        StringBuilder all = new StringBuilder();
        Matcher piece = PIECE.matcher(page);
        while (piece.find()) {
            all.append(piece.group(1).equals(language) ? piece.group(2) : "");
        }
        return all.toString();
    }

    private static int number(String word) throws ReflectiveOperationException {
        boolean named = Character.isLetter(word.charAt(0));
        return named ? LowHeads.class.getField(word).getInt(null) : Integer.parseInt(word);
    }

    @SuppressWarnings("unchecked")
    private static List<Integer> answersOf(String body) throws Exception {
        String source = "import java.util.*;\npublic final class Shown implements java.util.function.Supplier<List<Integer>> {\n"
            + "public List<Integer> get() {\nList<Integer> answers = new ArrayList<>();\n" + body + "return answers;\n}\n}\n";
        Path folder = Files.createTempDirectory("readme");
        try {
            Path file = Files.writeString(folder.resolve("Shown.java"), source);
            int status = ToolProvider.getSystemJavaCompiler().run(null, null, null, "-proc:none", "-cp",
                System.getProperty("java.class.path"), "-d", folder.toString(), file.toString());
            Check.due("README, its pieces are compiled", status, 0);
            if (status != 0) {
                return List.of();
            }
            try (URLClassLoader loader = new URLClassLoader(new URL[] {folder.toUri().toURL()}, ReadmeTest.class.getClassLoader())) {
                Object made = loader.loadClass("Shown").getConstructor().newInstance();
                return ((Supplier<List<Integer>>) made).get();
            }
        } finally {
            remove(folder);
        }
    }

    private static void remove(Path folder) throws IOException {
        try (Stream<Path> files = Files.walk(folder)) {
            for (Path file : files.sorted(Comparator.reverseOrder()).toList()) {
                Files.delete(file);
            }
        }
    }

    /** The table has each call of the class once, with as many arguments, and no refusal that there is not. */
    private static void allCalls(String page) {
        TreeSet<String> table = new TreeSet<>();
        int rows = 0;
        Matcher row = ROW.matcher(page);
        while (row.find()) {
            rows++;
            table.add(row.group(1) + " " + (row.group(2).isEmpty() ? 0 : row.group(2).split(",").length));
            for (String refusal : row.group(3).split("[ ,]+")) {
                boolean known = refusal.isEmpty() || List.of("UNKNOWN", "OUTSIDE", "NOT", "FULL").contains(refusal);
                Check.same("README, refusals of " + row.group(1), known ? "known" : refusal, "known");
            }
        }
        TreeSet<String> face = new TreeSet<>();
        for (var method : LowHeads.class.getMethods()) {
            if (method.getDeclaringClass() == LowHeads.class) {
                face.add(method.getName() + " " + method.getParameterCount());
            }
        }
        Check.same("README, all calls", table.toString(), face.toString());
        Check.due("README, each call once", rows, face.size());
    }

    /** Every test that is named is there, and every one that is there is named (the promises' by first and last). */
    private static void allNames(String page) throws IOException {
        Path own = Path.of("src/test/java");
        Matcher test = TEST.matcher(page);
        while (test.find()) {
            boolean there = Files.exists(own.resolve(test.group() + ".java"));
            Check.same("README, " + test.group(), there ? "is there" : "is not there", "is there");
        }
        for (Path folder : List.of(own, own.resolve("support"))) {
            try (Stream<Path> files = Files.list(folder)) {
                for (Path file : files.filter(f -> f.toString().endsWith(".java")).toList()) {
                    String name = file.getFileName().toString().replace(".java", "");
                    boolean named = page.contains(name) || name.matches("Promise[0-9]+Test");
                    Check.same("README, " + name, named ? "is named" : "is not named", "is named");
                }
            }
        }
    }

    /**
     * Folders and files in the commands are there (which tests are shared is not the project's to say).
     * The commands are not run: one of them would run this test again.
     */
    private static void commands(String page) {
        String shell = pieces(page, "sh");
        Check.due("README, how to run all", shell.indexOf(".ci/run\n"), 0);
        for (String word : shell.split("\\s+")) {
            if (word.contains("/")) {
                boolean several = word.contains("*") || word.startsWith("../shared");
                String path = several ? word.substring(0, word.lastIndexOf('/')) : word;
                Check.same("README, " + word, Files.exists(Path.of(path)) ? "is there" : "is not there", "is there");
            }
        }
    }
}
