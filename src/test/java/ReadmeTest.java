import java.io.ByteArrayOutputStream;
import java.io.IOException;
import java.io.PrintStream;
import java.lang.reflect.Method;
import java.lang.reflect.Modifier;
import java.net.URL;
import java.net.URLClassLoader;
import java.nio.file.Files;
import java.nio.file.Path;
import java.util.ArrayList;
import java.util.List;
import java.util.function.BiConsumer;
import java.util.regex.Matcher;
import java.util.regex.Pattern;
import javax.tools.ToolProvider;

/**
 * What README.md shows is right: its program is compiled and prints what stands behind it, and each of
 * its calls is made and answers what stands behind its two strokes.
 */
public final class ReadmeTest {
    private static final Pattern BLOCK = Pattern.compile("(?m)^```(\\w+)\n(.*?)^```$", Pattern.DOTALL);
    private static final Pattern CALL = Pattern.compile("(.*\\S);\\s*// (-?\\d+|true|false)(:.*|,.*)?");
    private static final Pattern PLAIN = Pattern.compile("\\s*|//.*|RockingPorch porch = new RockingPorch\\(\\);");

    private static final Check check = new Check();

    public static void main(String[] args) throws Exception {
        String readme = Files.readString(Path.of(System.getProperty("readme", "README.md")));
        List<String> examples = new ArrayList<>();
        String program = "";
        String printed = "";
        Matcher m = BLOCK.matcher(readme);
        while (m.find()) {
            if (m.group(1).equals("text")) {
                printed = m.group(2);
            } else if (m.group(1).equals("java") && m.group(2).startsWith("public class Begin")) {
                program = m.group(2);
            } else if (m.group(1).equals("java")) {
                examples.add(m.group(2));
            }
        }
        eachCallIsShown(String.join("\n", examples));
        run(program, printed, asProgram(examples));
        check.close("ReadmeTest");
    }

    private static void eachCallIsShown(String examples) {
        for (Method method : RockingPorch.class.getDeclaredMethods()) {
            if (Modifier.isPublic(method.getModifiers())) {
                String call = "porch." + method.getName() + "(";
                check.due("README.md shows " + call, true, examples.contains(call));
            }
        }
    }

    /** The examples, each with a porch of its own, as a class that hands over what is due and what came. */
    private static String asProgram(List<String> examples) {
        StringBuilder source = new StringBuilder("public final class Examples extends Begin {\n"
                + "static long worth(long v) { return v; }\n"
                + "static long worth(boolean v) { return v ? 1 : 0; }\n"
                + "public static void run(java.util.function.BiConsumer<String, long[]> due) {\n");
        for (String example : examples) {
            source.append("{\n");
            for (String line : example.split("\n")) {
                Matcher m = CALL.matcher(line);
                boolean isCall = m.matches();
                check.due("README.md has a call with its answer: " + line, true, isCall || PLAIN.matcher(line).matches());
                source.append(isCall ? asDue(m.group(1), m.group(2)) : line).append('\n');
            }
            source.append("}\n");
        }
        return source.append("}\n}\n").toString();
    }

    private static String asDue(String call, String answer) {
        String shown = call.replace("\\", "\\\\").replace("\"", "\\\"");
        return "due.accept(\"" + shown + "\", new long[] {worth(" + answer + "), worth(" + call + ")});";
    }

    private static void run(String program, String printed, String examples) throws Exception {
        Path room = Files.createTempDirectory("readme");
        try {
            Path begin = Files.writeString(room.resolve("Begin.java"), program);
            Path shown = Files.writeString(room.resolve("Examples.java"), examples);
            int code = ToolProvider.getSystemJavaCompiler().run(null, null, null, "--release", "17",
                    "-cp", System.getProperty("java.class.path"), "-d", room.toString(), begin.toString(), shown.toString());
            check.due("README.md's Java compiles", 0, code);
            if (code == 0) {
                ask(room, printed);
            }
        } finally {
            clear(room);
        }
    }

    private static void ask(Path room, String printed) throws Exception {
        try (URLClassLoader loader = new URLClassLoader(new URL[] {room.toUri().toURL()}, ReadmeTest.class.getClassLoader())) {
            PrintStream out = System.out;
            ByteArrayOutputStream heard = new ByteArrayOutputStream();
            System.setOut(new PrintStream(heard));
            try {
                loader.loadClass("Begin").getMethod("main", String[].class).invoke(null, (Object) new String[0]);
            } finally {
                System.out.flush();
                System.setOut(out);
            }
            String got = heard.toString().replace("\r\n", "\n");
            check.due("README.md's program prints what stands behind it, not: " + got, true, got.equals(printed));
            BiConsumer<String, long[]> due = (call, both) -> check.due("README.md: " + call, both[0], both[1]);
            loader.loadClass("Examples").getMethod("run", BiConsumer.class).invoke(null, due);
        }
    }

    private static void clear(Path room) throws IOException {
        try (var files = Files.list(room)) {
            for (Path file : files.toList()) {
                Files.delete(file);
            }
        }
        Files.delete(room);
    }
}
