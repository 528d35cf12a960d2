import java.io.IOException;
import java.nio.file.Files;
import java.nio.file.Path;
import java.util.regex.Matcher;
import java.util.regex.Pattern;

/** The calls that README.md shows, in its order: each answers what stands behind it there. */
public final class ReadmeTests {
    private static final Pattern SHOWN = Pattern.compile("(?m)^(.*;) +// (-?\\d+):.*$");

    private static Matcher lines;
    private static int wrong = 0;

    private static void fault(String what) {
        wrong++;
        System.out.println("README.md: " + what);
    }

    private static void shown(String line, long got) {
        if (!lines.find()) {
            fault("doesn't show " + line);
        } else if (!lines.group(1).equals(line)) {
            fault("shows " + lines.group(1) + " where " + line + " is tested");
        } else if (Long.parseLong(lines.group(2)) != got) {
            fault(lines.group(1) + " answered " + got + ", shown is " + lines.group(2));
        }
    }

    public static void main(String[] args) throws IOException {
        String readme = Files.readString(Path.of("README.md"));
        lines = SHOWN.matcher(readme);
        DoubledBridge road = new DoubledBridge();
        road(road);
        law(road, readme);
        host(road);
        if (lines.find()) {
            fault("shows " + lines.group(1) + ", which isn't tested");
        }
        System.out.println(wrong == 0 ? "README.md shows what is answered" : wrong + " lines of README.md are wrong");
        if (wrong != 0) {
            System.exit(1);
        }
    }

    private static void road(DoubledBridge road) {
        shown("int b = road.bridge(1, 2, 8, 0);", road.bridge(1, 2, 8, 0));
        shown("int m = road.bridge(3, 2, 4, 2);", road.bridge(3, 2, 4, 2));
        shown("road.after(b, 9, 3);", road.after(0, 9, 3));
        shown("road.need(b, 60);", road.need(0, 60));
        shown("road.after(b, 3, 1);", road.after(0, 3, 1));
        shown("int p = road.person(20);", road.person(20));
        shown("road.cross(p, b);", road.cross(0, 0));
        shown("road.rich(20, both);", road.rich(20, 3));
        shown("road.order(20, both, 0);", road.order(20, 3, 0));
        shown("road.order(20, both, 1);", road.order(20, 3, 1));
    }

    private static void law(DoubledBridge road, String readme) {
        String text = "mill if day = 2 dear 5; bridge if toll > 7 and not number = 1 free;";
        if (!readme.contains("String text = \"" + text + "\";")) {
            fault("doesn't show the law " + text);
        }
        shown("road.law();", Texts.law(road, text));
        shown("road.bridgeOf(b, 5);", road.bridgeOf(0, 5));
        shown("road.day(2);", road.day(2));
        shown("road.bridgeOf(m, 4);", road.bridgeOf(1, 4));
        shown("road.bridgeOf(m, 5);", road.bridgeOf(1, 5));
    }

    private static void host(DoubledBridge road) {
        shown("road.sheet(0, 0, 3);", road.sheet(0, 0, 3));
        shown("road.walks(p, 0, 0, 3);", road.walks(0, 0, 0, 3));
        shown("road.item(0, 2, 0);", road.item(0, 2, 0));
        shown("road.shelf(0, 0, m);", road.shelf(0, 0, 1));
        shown("road.act(0, 0, 5);", road.act(0, 0, 5));
        shown("road.trace(0);", road.trace(0));
    }
}
