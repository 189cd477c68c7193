import java.io.IOException;
import java.nio.file.Files;
import java.nio.file.Path;
import java.util.List;
import java.util.TreeSet;
import java.util.regex.Matcher;
import java.util.regex.Pattern;

/** The calls that README.md shows answer as it says, and its table names each call of the class. */
public final class ReadmeTests {
    private static final Path PAGE = Path.of("README.md");
    /** As the page has them; a change there is a change here. */
    private static final List<String> SHOWN = List.of(
            "x.feed(0x706f696e, 0x7420613b, 0x706f696e, 0x7420623b, 0x6c696e65); // \"point a;point b;line\"",
            "x.feed(0x20612062, 0x20353b00, 0, 0, 0);                            // \" a b 5;\"",
            "x.end(27);",
            "x.net();      // 3 rows",
            "x.place(0);   // 1: the line lies in forest 0 now",
            "x.forest(0);  // 1: line 0 alone");

    public static void main(String[] args) throws IOException {
        String page = Files.readString(PAGE);
        Check.says("README: the calls that are shown", ReadmeTests::shown);
        Check.says("README: these stand there", () -> stand(page));
        Check.says("README: the table names each call", () -> named(page));
        Check.end("readme");
    }

    private static void shown() {
        ForestPacks x = new ForestPacks();
        Check.due("feed", 20, x.feed(0x706f696e, 0x7420613b, 0x706f696e, 0x7420623b, 0x6c696e65));
        Check.due("feed", 40, x.feed(0x20612062, 0x20353b00, 0, 0, 0));
        Check.due("end", true, x.end(27));
        Check.due("net", 3, x.net());
        Check.due("weight", 5, x.line(0, 2));
        Check.due("place", 1, x.place(0));
        Check.due("forest of the line", 0, x.line(0, 3));
        Check.due("forest", 1, x.forest(0));
    }

    private static void stand(String page) {
        for (String line : SHOWN) {
            Check.due(line, true, page.contains(line));
        }
    }

    private static void named(String page) {
        TreeSet<String> named = new TreeSet<>();
        Matcher call = Pattern.compile("`(\\w+)\\([^`]*\\)`").matcher(page);
        while (call.find()) {
            named.add(call.group(1));
        }
        TreeSet<String> all = new TreeSet<>();
        for (java.lang.reflect.Method method : ForestPacks.class.getDeclaredMethods()) {
            if (java.lang.reflect.Modifier.isPublic(method.getModifiers())) {
                all.add(method.getName());
            }
        }
        Check.due("calls", all, named);
    }
}
