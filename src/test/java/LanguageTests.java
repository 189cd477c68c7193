import java.io.IOException;
import java.lang.reflect.Field;
import java.lang.reflect.Method;
import java.lang.reflect.Modifier;
import java.nio.file.Files;
import java.nio.file.Path;
import java.util.ArrayList;
import java.util.List;
import java.util.TreeSet;
import java.util.regex.Matcher;
import java.util.regex.Pattern;

/** What can be seen from outside of the rules of LANGUAGE.md: the face, and words that the source must not hold. */
public final class LanguageTests {
    private static final Path SOURCE = Path.of("src/main/java/ForestPacks.java");
    private static final int MOST_METHOD_LINES = 60;
    private static final int MOST_CLASSES = 12;
    private static int wrong = 0;

    public static void main(String[] args) throws IOException {
        String source = Files.readString(SOURCE);
        String code = source.replaceAll("(?s)/\\*.*?\\*/", "").replaceAll("//[^\n]*", "");
        face();
        words(code);
        methodLengths(code);
        for (char sign : source.toCharArray()) {
            check("sign " + (int) sign, sign < 128);
        }
        System.out.println(wrong == 0 ? "language: as it should be" : "language: " + wrong + " wrong");
        if (wrong != 0) {
            System.exit(1);
        }
    }

    private static void check(String what, boolean good) {
        if (!good) {
            wrong++;
            System.out.println("language: " + what);
        }
    }

    private static void face() {
        TreeSet<String> open = new TreeSet<>();
        TreeSet<String> closed = new TreeSet<>();
        for (Method method : ForestPacks.class.getDeclaredMethods()) {
            (Modifier.isPrivate(method.getModifiers()) ? closed : open).add(method.getName());
        }
        TreeSet<String> want = new TreeSet<>(List.of("feed end net fault forests line ring forest now put lift place chain chainAt crowd pack trade breaks mend weigh turn load ease game keptAt undo most fewest trees thick crowded strength even rooted outTree vital layers layerAt light drawn image restore".split(" ")));
        check("methods that can be seen: " + open, open.equals(want));
        closed.retainAll(want);
        check("private methods with names of the face: " + closed, closed.isEmpty());
        for (Field field : ForestPacks.class.getDeclaredFields()) {
            boolean seen = !Modifier.isPrivate(field.getModifiers());
            check("field " + field.getName(), seen == field.getName().equals("NONE"));
        }
        for (Class<?> inside : ForestPacks.class.getDeclaredClasses()) {
            check("class " + inside.getName(), Modifier.isStatic(inside.getModifiers()) && Modifier.isPrivate(inside.getModifiers()));
            for (Field field : inside.getDeclaredFields()) {
                boolean fixed = Modifier.isFinal(field.getModifiers()) || !Modifier.isStatic(field.getModifiers());
                check("static field " + field, fixed);
            }
            for (Method method : inside.getDeclaredMethods()) {
                check("method " + method, !want.contains(method.getName()));
            }
        }
        check("classes", ForestPacks.class.getDeclaredClasses().length + 1 <= MOST_CLASSES);
        check("final", Modifier.isFinal(ForestPacks.class.getModifiers()));
        check("constructors", ForestPacks.class.getDeclaredConstructors().length == 1);
    }

    private static void words(String code) {
        String[] never = {"->", "::", "\\bcatch\\b", "\\btry\\b", "\\bfinally\\b", "\\bsynchronized\\b", "\\bassert\\b", "Exact\\b",
            "\\bvar\\b", "\\bprotected\\b", "\\bpackage\\b", "\\bdouble\\b", "\\bSystem\\.(?!arraycopy)", "\\bMath\\.(?!min|max)",
            "\\bInteger\\.(?!bitCount)", "\\bRandom\\b", "\\bThread\\b", "\\bObject\\b", "@", "\\bgetMessage\\b", "\"\\s*\\+|\\+\\s*\""};
        for (String word : never) {
            check("the source holds " + word, !Pattern.compile(word).matcher(code).find());
        }
        List<String> imports = new ArrayList<>();
        Matcher matcher = Pattern.compile("(?m)^import (.*);$").matcher(code);
        while (matcher.find()) {
            imports.add(matcher.group(1));
        }
        check("imports " + imports, imports.equals(List.of("java.util.NoSuchElementException")));
    }

    private static void methodLengths(String code) {
        int begun = -1;
        String name = "";
        String[] lines = code.split("\n");
        for (int i = 0; i < lines.length; i++) {
            boolean head = lines[i].matches(" {4}( {4})?[\\w\\[\\] ]+\\([^;]*\\{");
            if (head && !lines[i].contains(" new ")) {
                begun = i;
                name = lines[i].trim();
            }
            if (begun >= 0 && lines[i].matches(" {4}( {4})?\\}")) {
                check("length of " + name, i - begun < MOST_METHOD_LINES);
                begun = -1;
            }
        }
    }
}
