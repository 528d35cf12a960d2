import java.io.IOException;
import java.io.UncheckedIOException;
import java.nio.file.Files;
import java.nio.file.Path;

/**
 * What the tests of single sentences share: each test names the sentence of ../shared/DOC.md that it is of, in the
 * document's own words, and then the answers that are due by it.
 */
abstract class Sentences {
    static final int BAD = -1, FULL = -2, NONE = -3, STATE = -4;
    static final int NOTHING = -11, OUTSIDE = -12, OTHER_SORT = -13, BELOW_ZERO = -14, BY_ZERO = -15;
    static final int PLAIN = 1, STREAM = 2, MILL = 3, EGG = 4, MARKET = 5;
    static final int MOST = 1000000000;
    static final int LEAST_INT = Integer.MIN_VALUE, MOST_INT = Integer.MAX_VALUE;

    private static final String DOCUMENT = plain(read(Path.of("../shared/DOC.md")));
    private static String sentence = "";
    private static int sentences = 0;
    private static int calls = 0;
    private static int wrong = 0;

    private static String read(Path path) {
        try {
            return Files.readString(path);
        } catch (IOException e) {
            throw new UncheckedIOException(e);
        }
    }

    private static String plain(String text) {
        return text.replace("`", "").replaceAll("\\s+", " ");
    }

    /** The sentence that the answers due from here on are of. */
    static void says(String words) {
        sentence = words;
        sentences++;
        if (!DOCUMENT.contains(plain(words))) {
            wrong++;
            System.out.println("the document doesn't say: " + words);
        }
    }

    static void due(String call, long got, long want) {
        calls++;
        if (got != want) {
            wrong++;
            System.out.println("\"" + sentence + "\": " + call + " answered " + got + ", due is " + want);
        }
    }

    static void end() {
        System.out.println(sentences + " sentences, " + calls + " answers, " + wrong + " wrong");
        if (wrong != 0) {
            System.exit(1);
        }
    }

    /** An object with bridges: KIND, TIMES, TOLL, FEAST of each. */
    static DoubledBridge road(int... facts) {
        DoubledBridge x = new DoubledBridge();
        for (int i = 0; i + 3 < facts.length; i += 4) {
            x.bridge(facts[i], facts[i + 1], facts[i + 2], facts[i + 3]);
        }
        return x;
    }

    /** One of each KIND, none on its FEAST on DAY 0; by them 20 coins become 32, 24, 54 (of 55), 32, 30 (of 31). */
    static DoubledBridge five() {
        return road(PLAIN, 2, 8, 6, STREAM, 2, 8, 6, EGG, 3, 5, 1, MILL, 2, 4, 2, MARKET, 2, 9, 3);
    }

    static DoubledBridge with(DoubledBridge x, int... purses) {
        for (int purse : purses) {
            x.person(purse);
        }
        return x;
    }

    static int feed(DoubledBridge x, String text) {
        return Texts.feed(x, text);
    }

    static int law(DoubledBridge x, String text) {
        return Texts.law(x, text);
    }

    static String times(int n, String text) {
        return text.repeat(n);
    }
}
