import java.lang.reflect.Constructor;
import java.lang.reflect.Field;
import java.lang.reflect.Method;
import java.lang.reflect.Modifier;
import java.nio.file.Files;
import java.nio.file.Path;
import java.util.ArrayList;
import java.util.Arrays;
import java.util.List;
import java.util.Set;
import java.util.TreeSet;
import java.util.regex.Matcher;
import java.util.regex.Pattern;

/** The rules of LANGUAGE.md that can be seen from outside: in the source's text and by reflection. */
public final class LanguageTest {
    private static final String FACE = "state(I)I chair(I)I person(I)I set(III)Z act(III)Z minutes(I)I feed(IIIII)I end(I)Z text(I)I"
            + " fault(I)I of(II)I who(II)I book(II)I goes(II)I seat()I tick(II)I ticks(I)I apart(II)I seated(II)I point(II)I line(I)I"
            + " full(IIZ)Z rug(I)I stack(II)I weight(I)I trunks(II)I throwing(I)I ahead(III)I hands(II)I step(I)I steps(I)I coin(I)I"
            + " slide()I undo()Z image(Z)Z look(I)I";
    private static final int LONGEST_METHOD = 60;
    private static final int MOST_CLASSES = 12;
    private static final int MOST_FIELDS = 20;
    private static final int MOST_PARAMETERS = 7;

    private static final Check check = new Check();

    public static void main(String[] args) throws Exception {
        String source = Files.readString(Path.of(System.getProperty("source", "src/main/java/RockingPorch.java")));
        String bare = bare(source);
        forbiddenWords(bare);
        library(bare);
        methodLengths(bare);
        face();
        classes();
        check.close("LanguageTest");
    }

    private static void none(String what, String text, String pattern) {
        Matcher m = Pattern.compile(pattern).matcher(text);
        boolean found = m.find();
        check.due(what + (found ? " at '" + text.substring(m.start(), Math.min(text.length(), m.start() + 40)) + "'" : ""), false, found);
    }

    /** The source without comments and with all literals empty. */
    private static String bare(String source) {
        Matcher m = Pattern.compile("/\\*.*?\\*/|//[^\n]*|\"(?:\\\\.|[^\"\\\\])*\"|'(?:\\\\.|[^'\\\\])+'", Pattern.DOTALL).matcher(source);
        StringBuilder bare = new StringBuilder();
        while (m.find()) {
            String with = m.group().startsWith("\"") ? "\"\"" : m.group().startsWith("'") ? "' '" : m.group().replaceAll("[^\n]", "");
            m.appendReplacement(bare, Matcher.quoteReplacement(with));
        }
        m.appendTail(bare);
        return bare.toString();
    }

    private static void forbiddenWords(String bare) {
        String[] words = {"throw", "throws", "try", "catch", "finally", "synchronized", "assert", "import", "package", "native",
            "volatile", "transient", "strictfp", "instanceof", "Object", "Exception", "Error", "Thread", "Random", "protected"};
        for (String word : words) {
            none("the word " + word, bare, "\\b" + word + "\\b");
        }
        none("a lambda", bare, "->");
        none("a method reference", bare, "::");
        none("an annotation", bare, "@");
        none("texts joined by +", bare, "\"\"\\s*\\+|\\+\\s*\"\"");
        none("a static block", bare, "static\\s*\\{");
        none("a loop without an end", bare, "while\\s*\\(\\s*true|for\\s*\\(\\s*;\\s*;");
        none("an array of texts", bare, "String\\s*\\[");
    }

    /** Only what the class needs of the library, all of it listed by rule 4. */
    private static void library(String bare) {
        Set<String> allowed = Set.of("Math.max", "Math.min", "Integer.bitCount", "System.arraycopy");
        Matcher m = Pattern.compile("\\b([A-Z][a-z]\\w*\\.[a-z]\\w*)").matcher(bare);
        Set<String> own = new TreeSet<>();
        for (Class<?> c : RockingPorch.class.getDeclaredClasses()) {
            own.add(c.getSimpleName());
        }
        while (m.find()) {
            String name = m.group(1);
            boolean fine = allowed.contains(name) || own.contains(name.substring(0, name.indexOf('.')));
            check.due("library " + name, true, fine);
        }
    }

    private static void methodLengths(String bare) {
        String[] lines = bare.split("\n", -1);
        Pattern head = Pattern.compile("^ {4}( {4})?(?! )(?!.*\\b(class|new)\\b).*\\w\\(.*\\) \\{$");
        int methods = 0;
        for (int i = 0; i < lines.length; i++) {
            if (head.matcher(lines[i]).matches()) {
                String close = lines[i].replaceAll("\\S.*", "") + "}";
                int end = i;
                while (end < lines.length && !lines[end].equals(close)) {
                    end++;
                }
                methods++;
                check.due("length of " + lines[i].trim() + " " + (end - i), true, end - i < LONGEST_METHOD);
            }
        }
        check.due("methods seen", true, methods > 100);
    }

    private static String signature(Method method) {
        StringBuilder s = new StringBuilder(method.getName()).append('(');
        for (Class<?> type : method.getParameterTypes()) {
            s.append(type.descriptorString());
        }
        return s.append(')').append(method.getReturnType().descriptorString()).toString();
    }

    private static void face() {
        List<String> found = new ArrayList<>();
        List<String> hidden = new ArrayList<>();
        for (Method method : RockingPorch.class.getDeclaredMethods()) {
            if (Modifier.isPublic(method.getModifiers())) {
                found.add(signature(method));
            } else {
                check.due("private " + method, true, Modifier.isPrivate(method.getModifiers()));
                hidden.add(method.getName());
            }
        }
        List<String> wanted = new ArrayList<>(Arrays.asList(FACE.split(" ")));
        check.due("the face " + found, true, new TreeSet<>(found).equals(new TreeSet<>(wanted)));
        for (String face : wanted) {
            check.due("no private " + face, false, hidden.contains(face.substring(0, face.indexOf('('))));
        }
        for (Constructor<?> made : RockingPorch.class.getDeclaredConstructors()) {
            check.due("constructor " + made, true, Modifier.isPublic(made.getModifiers()) && made.getParameterCount() == 0);
        }
        for (Field field : RockingPorch.class.getDeclaredFields()) {
            boolean isFace = field.getName().equals("NONE");
            check.due("field " + field, true, isFace ? Modifier.isPublic(field.getModifiers()) : Modifier.isPrivate(field.getModifiers()));
        }
        check.due("public and final", Modifier.PUBLIC | Modifier.FINAL, RockingPorch.class.getModifiers());
    }

    private static void classes() {
        List<Class<?>> all = new ArrayList<>(Arrays.asList(RockingPorch.class.getDeclaredClasses()));
        for (Class<?> inner : all) {
            check.due("static and not public " + inner, true,
                    Modifier.isStatic(inner.getModifiers()) && !Modifier.isPublic(inner.getModifiers()));
        }
        all.add(RockingPorch.class);
        check.due("classes " + all.size(), true, all.size() <= MOST_CLASSES);
        Set<String> faceNames = new TreeSet<>();
        for (String face : FACE.split(" ")) {
            faceNames.add(face.substring(0, face.indexOf('(')));
        }
        for (Class<?> one : all) {
            int fields = 0;
            for (Field field : one.getDeclaredFields()) {
                boolean isStatic = Modifier.isStatic(field.getModifiers());
                fields += isStatic ? 0 : 1;
                check.due("static is final " + field, true, !isStatic || Modifier.isFinal(field.getModifiers()));
            }
            check.due("fields of " + one + " " + fields, true, fields <= MOST_FIELDS);
            for (Method method : one.getDeclaredMethods()) {
                check.due("parameters of " + method, true, method.getParameterCount() <= MOST_PARAMETERS);
                check.due("name of " + method, true, one == RockingPorch.class || !faceNames.contains(method.getName()));
            }
        }
    }
}
