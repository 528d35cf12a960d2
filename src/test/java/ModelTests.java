import java.util.ArrayList;
import java.util.Arrays;
import java.util.List;
import java.util.Random;
import java.util.regex.Matcher;
import java.util.regex.Pattern;

/**
 * Random runs of calls (the same ones each time), each answer beside that of a slow model,
 * which tries all purses and all orders where the program reckons.
 */
public final class ModelTests {
    private static final int UNKNOWN = -999;
    private static final String[] WORDS = {"bridge", "plain", "stream", "mill", "egg", "market", "if", "free", "dear",
        "double", "shut", "day", "times", "toll", "feast", "number", "not", "and", "or", "x"};
    private static final String[] VALUES = {"day", "times", "toll", "feast", "number", "0", "1", "3", "6", "9", "50", "500"};
    private static final String[] NAMES = {"bridge", "bridgeOf", "change", "mend", "day", "law", "person", "personOf",
        "purse", "cross", "pool", "gives", "after", "need", "ever", "same", "few", "back", "rich", "order", "poor", "fast",
        "by", "swap", "devil", "rate", "worth", "stops", "meet", "tale", "forget", "fits", "liar", "prove", "row",
        "alterRow", "judge", "sheet", "write", "item", "walks", "shelf", "taken", "act", "trace", "many", "keep", "again"};

    private static Random random;
    private static long calls = 0;
    private static long refused = 0;

    public static void main(String[] args) {
        int[] of = new int[NAMES.length];
        for (int run = 0; run < 700; run++) {
            random = new Random(run);
            DoubledBridge x = new DoubledBridge();
            SlowModel model = new SlowModel();
            StringBuilder told = new StringBuilder();
            boolean wild = run % 4 == 3;
            for (int call = 0; call < 250; call++) {
                int op = call < 6 ? (call < 4 ? 0 : 6) : random.nextInt(NAMES.length);
                if (!sameAnswer(x, model, op, wild && random.nextInt(3) == 0, told)) {
                    System.out.println("run " + run + ": " + told);
                    System.exit(1);
                }
                of[op]++;
            }
        }
        for (int op = 0; op < of.length; op++) {
            if (of[op] == 0) {
                System.out.println("never called: " + NAMES[op]);
                System.exit(1);
            }
        }
        System.out.println(calls + " calls as the model has them, " + refused + " of them refused");
    }

    private static int upTo(int most) {
        return random.nextInt(most + 1);
    }

    /** A number of a range, or now and then one beside it. */
    private static int in(int least, int most, boolean wild) {
        if (wild && random.nextInt(2) == 0) {
            int[] odd = {least - 1, most + 1, Integer.MIN_VALUE, Integer.MAX_VALUE, -1, 0, least, most};
            return odd[random.nextInt(odd.length)];
        }
        return least + random.nextInt(most - least + 1);
    }

    private static int coins(boolean wild) {
        switch (random.nextInt(8)) {
            case 0: return in(0, 1000000000, wild);
            case 1: return 1000000000 - random.nextInt(2000);
            case 2: case 3: return in(0, 3000, wild);
            default: return in(0, 60, wild);
        }
    }

    private static boolean sameAnswer(DoubledBridge x, SlowModel m, int op, boolean wild, StringBuilder told) {
        long got;
        long want;
        int[] a = new int[4];
        int top = Math.max(0, m.bridges.size() - 1);
        int people = Math.max(0, m.people.size() - 1);
        int b = in(0, top, wild);
        switch (NAMES[op]) {
            case "bridge":
                a = new int[] {in(1, 5, wild), random.nextInt(3) == 0 ? in(1, 9, wild) : in(1, 3, wild),
                    random.nextInt(4) == 0 ? in(0, 999, wild) : in(0, 30, wild), in(0, 6, wild)};
                if (m.bridges.size() >= 6 && random.nextInt(10) != 0) {
                    return true;
                }
                got = x.bridge(a[0], a[1], a[2], a[3]);
                want = m.bridge(a[0], a[1], a[2], a[3]);
                break;
            case "bridgeOf":
                a = new int[] {b, in(0, 6, wild)};
                got = x.bridgeOf(a[0], a[1]);
                want = m.bridgeOf(a[0], a[1]);
                break;
            case "change":
                a = new int[] {b, in(1, 3, wild), 0};
                a[2] = a[1] == 1 ? in(1, 9, wild) : a[1] == 2 ? in(0, random.nextInt(4) == 0 ? 999 : 20, wild) : in(0, 6, wild);
                got = x.change(a[0], a[1], a[2]);
                want = m.change(a[0], a[1], a[2]);
                break;
            case "mend":
                a = new int[] {b, in(1, 5, wild)};
                got = x.mend(a[0], a[1]);
                want = m.mend(a[0], a[1]);
                break;
            case "day":
                a = new int[] {in(0, 6, wild)};
                got = x.day(a[0]);
                want = m.day(a[0]);
                break;
            case "law":
                return sameLaw(x, m, told);
            case "person":
                a = new int[] {coins(wild)};
                got = x.person(a[0]);
                want = m.person(a[0]);
                break;
            case "personOf":
                a = new int[] {in(0, people, wild), in(0, 2, wild)};
                got = x.personOf(a[0], a[1]);
                want = m.personOf(a[0], a[1]);
                break;
            case "purse":
                a = new int[] {in(0, people, wild), coins(wild)};
                got = x.purse(a[0], a[1]);
                want = m.purse(a[0], a[1]);
                break;
            case "cross":
                a = new int[] {in(0, people, wild), b};
                got = x.cross(a[0], a[1]);
                want = m.cross(a[0], a[1]);
                break;
            case "pool":
                a = new int[] {in(0, people, wild), in(0, people, wild), b};
                got = x.pool(a[0], a[1], a[2]);
                want = m.pool(a[0], a[1], a[2]);
                break;
            case "gives":
                a = new int[] {in(0, people, wild), in(0, people, wild), coins(wild)};
                got = x.gives(a[0], a[1], a[2]);
                want = m.gives(a[0], a[1], a[2]);
                break;
            case "after":
                a = new int[] {b, coins(wild), random.nextBoolean() ? in(0, 60, wild) : in(0, 5, wild)};
                got = x.after(a[0], a[1], a[2]);
                want = m.after(a[0], a[1], a[2]);
                break;
            case "need":
                a = new int[] {b, random.nextBoolean() ? in(0, 60, wild) : in(0, 5, wild)};
                got = x.need(a[0], a[1]);
                want = m.need(a[0], a[1]);
                break;
            case "ever":
                a = new int[] {b};
                got = x.ever(b);
                want = m.ever(b, false);
                break;
            case "same":
                a = new int[] {b};
                got = x.same(b);
                want = m.ever(b, true);
                break;
            case "few":
                a = new int[] {b, coins(wild), coins(wild)};
                got = x.few(a[0], a[1], a[2]);
                want = m.few(a[0], a[1], a[2]);
                break;
            case "back":
                a = new int[] {b, random.nextInt(6) == 0 ? in(0, 99999, wild) : in(0, 200, wild), in(1, 6, wild), in(-1, 3, wild)};
                if (random.nextInt(4) != 0) {
                    return true;
                }
                got = x.back(a[0], a[1], a[2], a[3]);
                want = m.back(a[0], a[1], a[2], a[3]);
                break;
            case "rich": case "order": case "poor":
                return sameOrder(x, m, op, wild, told);
            case "fast":
                a = new int[] {coins(wild), random.nextBoolean() ? coins(wild) : in(0, 3000, wild)};
                got = x.fast(a[0], a[1]);
                want = m.fast(a[0], a[1]);
                if (want == UNKNOWN) {
                    want = got == -3 || got > SlowModel.DEEP && got <= 60 ? got : UNKNOWN;
                }
                break;
            case "by":
                a = new int[] {coins(wild), random.nextBoolean() ? coins(wild) : in(0, 3000, wild), in(0, 5, wild)};
                got = x.by(a[0], a[1], a[2]);
                want = m.by(a[0], a[1], a[2]);
                if (want == UNKNOWN) {
                    want = isFirstRow(x, m, a[0], a[1]) ? got : UNKNOWN;
                }
                break;
            case "swap":
                a = new int[] {b, in(0, top, wild), coins(wild)};
                got = x.swap(a[0], a[1], a[2]);
                want = m.swap(a[0], a[1], a[2]);
                break;
            case "devil":
                a = new int[] {b, random.nextBoolean() ? in(0, 99999, wild) : in(0, 400, wild), in(1, 20, wild)};
                got = x.devil(a[0], a[1], a[2]);
                want = m.devil(a[0], a[1], a[2]);
                break;
            case "rate":
                a = new int[] {b, random.nextBoolean() ? in(0, 99999, wild) : in(0, 100, wild),
                    random.nextBoolean() ? in(1, 99999, wild) : in(1, 20, wild)};
                got = x.rate(a[0], a[1], a[2]);
                want = m.rate(a[0], a[1], a[2]);
                break;
            case "worth": case "stops":
                a = new int[] {b, random.nextBoolean() ? in(0, 9999, wild) : in(0, 40, wild), in(0, 100, wild), in(0, 4, wild)};
                got = NAMES[op].equals("worth") ? x.worth(a[0], a[1], a[2], a[3]) : x.stops(a[0], a[1], a[2], a[3]);
                want = NAMES[op].equals("worth") ? m.worth(a[0], a[1], a[2], a[3]) : m.stops(a[0], a[1], a[2], a[3]);
                break;
            case "meet":
                a = new int[] {in(0, people, wild), in(0, people, wild), b, in(0, top, wild)};
                got = x.meet(a[0], a[1], a[2], a[3]);
                want = m.meet(a[0], a[1], a[2], a[3]);
                break;
            case "tale":
                int from = in(0, 60, wild);
                a = new int[] {from, random.nextInt(3) == 0 ? in(0, 99, wild) : Math.max(0, 2 * (from < 100 ? from : 5) - 8)};
                got = x.tale(a[0], a[1]);
                want = m.tale(a[0], a[1]);
                break;
            case "forget":
                got = x.forget();
                want = m.forget();
                break;
            case "fits":
                a = new int[] {random.nextInt(5) == 0 ? in(0, 5, wild) : 1 << random.nextInt(3), in(0, 2, wild)};
                got = x.fits(a[0], a[1]);
                want = m.fits(a[0], a[1]);
                break;
            case "liar":
                a = new int[] {random.nextInt(5) == 0 ? in(0, 5, wild) : 1 << random.nextInt(3)};
                got = x.liar(a[0]);
                want = m.liar(a[0]);
                break;
            case "prove":
                a = new int[] {b, coins(wild), in(1, 20, wild)};
                got = x.prove(a[0], a[1], a[2]);
                want = m.prove(a[0], a[1], a[2]);
                break;
            case "row":
                a = new int[] {in(0, 4, wild), in(0, 2, wild)};
                got = x.row(a[0], a[1]);
                want = m.row(a[0], a[1]);
                break;
            case "alterRow":
                a = new int[] {in(0, 4, wild), in(0, 2, wild), random.nextBoolean() ? x.row(1, 1) : coins(wild)};
                got = x.alterRow(a[0], a[1], a[2]);
                want = m.alterRow(a[0], a[1], a[2]);
                break;
            case "judge":
                a = new int[] {b};
                got = x.judge(b);
                want = m.judge(b);
                break;
            case "sheet":
                a = new int[] {in(0, 3, wild), in(-1, 4, wild), in(0, 40, wild)};
                got = x.sheet(a[0], a[1], a[2]);
                want = m.sheet(a[0], a[1], a[2]);
                break;
            case "write":
                a = new int[] {in(0, 3, wild), in(0, 20, wild), random.nextBoolean() ? upTo(6) - 1 : random.nextInt()};
                got = x.write(a[0], a[1], a[2]);
                want = m.write(a[0], a[1], a[2]);
                break;
            case "item":
                a = new int[] {in(0, 3, wild), in(0, 4, wild), in(0, 20, wild)};
                got = x.item(a[0], a[1], a[2]);
                want = m.item(a[0], a[1], a[2]);
                break;
            case "walks":
                a = new int[] {in(0, people, wild), in(0, 3, wild), in(0, 20, wild), in(0, 20, wild)};
                got = x.walks(a[0], a[1], a[2], a[3]);
                want = m.walks(a[0], a[1], a[2], a[3]);
                break;
            case "shelf":
                a = new int[] {in(0, 3, wild), random.nextInt(3) == 0 ? in(0, 2, wild) : 0, in(0, 3, wild)};
                got = x.shelf(a[0], a[1], a[2]);
                want = m.shelf(a[0], a[1], a[2]);
                break;
            case "taken":
                a = new int[] {in(0, 3, wild), random.nextBoolean() ? in(0, 5, wild) : in(10, 14, wild)};
                got = x.taken(a[0], a[1]);
                want = m.taken(a[0], a[1]);
                break;
            case "act":
                a = new int[] {in(0, 3, wild), in(0, 3, wild), random.nextBoolean() ? upTo(100) - 50 : random.nextInt()};
                got = x.act(a[0], a[1], a[2]);
                want = m.act(a[0], a[1], a[2]);
                break;
            case "trace":
                a = new int[] {in(0, 7, wild)};
                got = x.trace(a[0]);
                want = a[0] >= 0 && a[0] < m.trace.size() ? m.trace.get(a[0]) : -3;
                break;
            case "many":
                a = new int[] {in(0, 6, wild)};
                got = x.many(a[0]);
                want = m.many(a[0]);
                break;
            case "keep":
                got = x.keep();
                want = m.keep();
                break;
            default:
                got = x.again();
                want = m.again();
                break;
        }
        return agree(told, NAMES[op] + Arrays.toString(a), got, want);
    }

    /** Whether a row longer than the model tries goes to the goal, in the fewest crossings, the first by numbers. */
    private static boolean isFirstRow(DoubledBridge x, SlowModel m, int purse, int goal) {
        int n = x.fast(purse, goal);
        for (int fewer = 0; fewer < (n == -3 ? 61 : n); fewer++) {
            if (m.mostBehind(purse, fewer) >= goal) {
                return false;
            }
        }
        if (n < 60 && x.by(purse, goal, Math.max(n, 0)) != -3) {
            return false;
        }
        if (n == -3) {
            return true;
        }
        long has = purse;
        for (int i = 0; i < n; i++) {
            int b = x.by(purse, goal, i);
            for (int lower = 0; lower < b; lower++) {
                if (m.mostBehind(m.becomes(lower, has), n - i - 1) >= goal) {
                    return false;
                }
            }
            has = m.becomes(b, has);
        }
        return has >= goal;
    }

    private static boolean agree(StringBuilder told, String call, long got, long want) {
        calls++;
        if (want < 0) {
            refused++;
        }
        told.append(call).append(" = ").append(want).append("\n");
        if (got != want) {
            told.append("but answered ").append(got);
        }
        return got == want;
    }

    private static boolean sameOrder(DoubledBridge x, SlowModel m, int op, boolean wild, StringBuilder told) {
        int most = (1 << m.bridges.size()) - 1;
        int set = in(0, most, wild);
        int purse = coins(wild);
        int i = in(0, 8, wild);
        if (Integer.bitCount(set & most) > 6 && random.nextInt(30) != 0) {
            set &= 0x2b;
        }
        switch (NAMES[op]) {
            case "rich": return agree(told, "rich " + purse + " " + set, x.rich(purse, set), m.rich(purse, set));
            case "order": return agree(told, "order " + purse + " " + set + " " + i, x.order(purse, set, i), m.order(purse, set, i));
            default: return agree(told, "poor " + set, x.poor(set), m.poor(set));
        }
    }

    // ---- laws

    private static String one(int deep) {
        String not = random.nextInt(4) == 0 ? "not " : "";
        if (deep < 4 && random.nextInt(4) == 0) {
            return not + "(" + cond(deep + 1) + ")";
        }
        return not + VALUES[random.nextInt(VALUES.length)] + "<=>".charAt(random.nextInt(3))
            + VALUES[random.nextInt(VALUES.length)];
    }

    private static String cond(int deep) {
        StringBuilder text = new StringBuilder(one(deep));
        while (random.nextInt(3) == 0) {
            text.append(random.nextBoolean() ? " and " : " or ").append(one(deep));
        }
        return text.toString();
    }

    private static String lawText() {
        StringBuilder text = new StringBuilder();
        int clauses = random.nextInt(10) == 0 ? 9 : random.nextInt(4);
        for (int i = 0; i < clauses; i++) {
            text.append(WORDS[random.nextInt(6)]).append(' ');
            if (clauses < 9 && random.nextInt(3) != 0) {
                text.append("if ").append(cond(0)).append(' ');
            }
            int deed = random.nextInt(4);
            text.append(WORDS[7 + deed]);
            if (deed == 1) {
                text.append(' ').append(random.nextInt(6) == 0 ? random.nextInt(2000) : random.nextInt(20));
            }
            text.append(random.nextBoolean() ? ";" : " ; ");
        }
        if (random.nextInt(3) == 0) {
            for (int i = random.nextInt(3); i >= 0 && text.length() > 0; i--) {
                int at = random.nextInt(text.length());
                switch (random.nextInt(4)) {
                    case 0: text.deleteCharAt(at); break;
                    case 1: text.setLength(at); break;
                    case 2: text.insert(at, (random.nextBoolean() ? " " : "") + WORDS[random.nextInt(WORDS.length)] + " "); break;
                    default: text.insert(at, " ;()<=>9aA\t\u00ff".charAt(random.nextInt(12))); break;
                }
            }
        }
        return text.length() > 200 ? text.substring(0, 200) : text.toString();
    }

    private static boolean sameLaw(DoubledBridge x, SlowModel m, StringBuilder told) {
        String text = random.nextInt(12) == 0 ? "" : lawText();
        for (int at = 0; at < text.length();) {
            int n = Math.min(1 + random.nextInt(8), text.length() - at);
            long eight = random.nextLong();
            for (int i = n - 1; i >= 0; i--) {
                eight = eight << 8 | text.charAt(at + i);
            }
            at += n;
            if (x.feed(eight, n) != at) {
                return agree(told, "feed to " + at, 0, at);
            }
        }
        return agree(told, "law of '" + text + "'", x.law(), m.law(text));
    }
}

/** What the document says, said once more and slowly. */
final class SlowModel {
    static final int DEEP = 5;
    private static final long MOST = 1000000000L;
    private static final Pattern TOKEN = Pattern.compile("[a-z]+|[0-9]+|[^ ]", Pattern.DOTALL);
    private static final String KINDS = " bridge plain stream mill egg market ";

    List<int[]> bridges = new ArrayList<>();
    List<int[]> people = new ArrayList<>();
    List<int[]> tales = new ArrayList<>();
    List<List<String>> law = new ArrayList<>();
    int day = 0;
    final List<int[]> rows = new ArrayList<>();
    final List<Integer> trace = new ArrayList<>();
    final Object[] sheets = new Object[4];
    final Object[] shelves = new Object[4];
    private SlowModel kept = null;

    // ---- the road

    private boolean is(int b) {
        return b >= 0 && b < bridges.size();
    }

    private boolean isOne(int p) {
        return p >= 0 && p < people.size();
    }

    int bridge(int kind, int times, int toll, int feast) {
        if (kind < 1 || kind > 5 || times < 1 || times > 9 || toll < 0 || toll > 999 || feast < 0 || feast > 6) {
            return -1;
        }
        if (bridges.size() == 9) {
            return -2;
        }
        bridges.add(new int[] {kind, times, toll, feast, bridges.size()});
        return bridges.size() - 1;
    }

    int bridgeOf(int b, int what) {
        if (!is(b) || what < 0 || what > 6) {
            return -1;
        }
        return what < 4 ? bridges.get(b)[what] : nowOf(bridges.get(b))[what - 4];
    }

    int change(int b, int what, int v) {
        int[][] range = {{1, 9}, {0, 999}, {0, 6}};
        if (!is(b) || what < 1 || what > 3 || v < range[what - 1][0] || v > range[what - 1][1]) {
            return -1;
        }
        int was = bridges.get(b)[what];
        bridges.get(b)[what] = v;
        return was;
    }

    int mend(int b, int kind) {
        if (!is(b) || kind < 1 || kind > 5) {
            return -1;
        }
        int was = bridges.get(b)[0];
        bridges.get(b)[0] = kind;
        return was;
    }

    int day(int v) {
        if (v < 0 || v > 6) {
            return -1;
        }
        int was = day;
        day = v;
        return was;
    }

    private static boolean under(int kind, int as) {
        int[] above = {-1, 0, 0, 2, 0, 4};
        for (int k = kind; k >= 0; k = above[k]) {
            if (k == as) {
                return true;
            }
        }
        return false;
    }

    /** TIMES NOW, TOLL NOW, OPEN. */
    private int[] nowOf(int[] b) {
        int times = b[1];
        int toll = b[2];
        int open = 1;
        for (List<String> clause : law) {
            int kind = Arrays.asList(KINDS.trim().split(" ")).indexOf(clause.get(0));
            int deed = Math.max(Math.max(clause.lastIndexOf("free"), clause.lastIndexOf("dear")),
                Math.max(clause.lastIndexOf("double"), clause.lastIndexOf("shut")));
            if (!under(b[0], kind) || deed > 1 && !holds(clause.subList(2, deed), b)) {
                continue;
            }
            switch (clause.get(deed)) {
                case "free": toll = 0; break;
                case "dear": toll += Integer.parseInt(clause.get(deed + 1)); break;
                case "double": times++; break;
                default: open = 0; break;
            }
            break;
        }
        if (b[0] == 3 && day == b[3]) {
            times++;
        }
        if (b[0] == 5 && day == b[3]) {
            toll = toll / 2;
        }
        return new int[] {times, toll, open};
    }

    private long becomes(int[] b, long purse, int[] nowFacts, int more) {
        if (purse < 0 || nowFacts[2] == 0) {
            return -1;
        }
        return crossed(b[0], nowFacts[0] + more, nowFacts[1], purse);
    }

    private static long crossed(int kind, long t, long c, long purse) {
        long behind;
        if (kind == 2 || kind == 3) {
            if (purse - c < 0) {
                return -1;
            }
            behind = t * (purse - c);
        } else {
            behind = t * purse - c;
            if (behind < 0) {
                return -1;
            }
            if (kind >= 4 && behind % 2 == 1) {
                behind--;
            }
        }
        return behind > MOST ? MOST : behind;
    }

    long becomes(int b, long purse) {
        return becomes(bridges.get(b), purse, nowOf(bridges.get(b)), 0);
    }

    // ---- the law: a machine with one state reads it, and rewriting answers it

    int law(String text) {
        List<List<String>> clauses = new ArrayList<>();
        List<String> clause = new ArrayList<>();
        String state = "kind";
        int open = 0;
        Matcher m = TOKEN.matcher(text);
        while (m.find()) {
            String t = m.group();
            String then = clauses.size() == 8 || t.matches("[0-9]{5,}") ? null : stateBehind(state, t, open);
            if (then == null) {
                return -100 - m.start();
            }
            open += t.equals("(") ? 1 : t.equals(")") ? -1 : 0;
            clause.add(t);
            if (t.equals(";")) {
                clauses.add(clause);
                clause = new ArrayList<>();
            }
            state = then;
        }
        if (!clause.isEmpty()) {
            return -100 - text.length();
        }
        law = clauses;
        return law.size();
    }

    private static String stateBehind(String state, String t, int open) {
        boolean value = t.matches("[0-9]+|day|times|toll|feast|number");
        String deed = t.equals("dear") ? "coins" : t.matches("free|double|shut") ? "end" : null;
        switch (state) {
            case "kind": return KINDS.contains(" " + t + " ") ? "behind kind" : null;
            case "behind kind": return t.equals("if") ? "one" : deed;
            case "one":
                if (t.equals("not")) {
                    return "one";
                }
                if (t.equals("(")) {
                    return open < 3 ? "one" : null;
                }
                return value ? "sign" : null;
            case "sign": return t.matches("[<=>]") ? "right" : null;
            case "right": return value ? "behind one" : null;
            case "behind one":
                if (t.equals("and") || t.equals("or")) {
                    return "one";
                }
                if (t.equals(")")) {
                    return open > 0 ? "behind one" : null;
                }
                return open == 0 ? deed : null;
            case "coins": return t.matches("[0-9]+") && Integer.parseInt(t) <= 999 ? "end" : null;
            default: return t.equals(";") ? "kind" : null;
        }
    }

    private boolean holds(List<String> tokens, int[] b) {
        StringBuilder text = new StringBuilder(" ");
        for (String t : tokens) {
            String said = t;
            switch (t) {
                case "day": said = "" + day; break;
                case "times": said = "" + b[1]; break;
                case "toll": said = "" + b[2]; break;
                case "feast": said = "" + b[3]; break;
                case "number": said = "" + b[4]; break;
                default: break;
            }
            text.append(said).append(' ');
        }
        Matcher m = Pattern.compile("([0-9]+) ([<=>]) ([0-9]+)").matcher(text);
        StringBuilder answers = new StringBuilder();
        while (m.find()) {
            int left = Integer.parseInt(m.group(1));
            int right = Integer.parseInt(m.group(3));
            boolean so = m.group(2).equals("<") ? left < right : m.group(2).equals("=") ? left == right : left > right;
            m.appendReplacement(answers, so ? "T" : "F");
        }
        m.appendTail(answers);
        String s = answers.toString();
        String was = "";
        while (!s.equals(was)) {
            was = s;
            s = s.replace(" ( T ) ", " T ").replace(" ( F ) ", " F ");
            String nots = s.replace(" not T ", " F ").replace(" not F ", " T ");
            if (!nots.equals(s)) {
                s = nots;
                continue;
            }
            String ands = s.replaceFirst(" T and T ", " T ");
            ands = ands.equals(s) ? s.replaceFirst(" (T and F|F and T|F and F) ", " F ") : ands;
            if (!ands.equals(s)) {
                s = ands;
                continue;
            }
            // An or may be taken only if no and, no not stands at it.
            s = s.replaceFirst("(?<= \\(| or|^) (T or F|F or T|T or T) (?=or|\\)|$)", " T ")
                .replaceFirst("(?<= \\(| or|^) F or F (?=or|\\)|$)", " F ");
        }
        if (!s.equals(" T ") && !s.equals(" F ")) {
            throw new IllegalStateException("the model can't answer '" + s + "'");
        }
        return s.equals(" T ");
    }

    // ---- people

    int person(int purse) {
        if (purse < 0 || purse > MOST) {
            return -1;
        }
        if (people.size() == 6) {
            return -2;
        }
        people.add(new int[] {purse, 0, -9});
        return people.size() - 1;
    }

    int personOf(int p, int what) {
        return !isOne(p) || what < 0 || what > 2 ? -1 : people.get(p)[what];
    }

    int purse(int p, int v) {
        if (!isOne(p) || v < 0 || v > MOST) {
            return -1;
        }
        int was = people.get(p)[0];
        people.get(p)[0] = v;
        return was;
    }

    private void arrive(int p, long purse, int b) {
        people.set(p, new int[] {(int) purse, people.get(p)[1] + 1, b});
    }

    int cross(int p, int b) {
        if (!isOne(p) || !is(b)) {
            return -1;
        }
        long behind = becomes(b, people.get(p)[0]);
        if (behind < 0) {
            return -4;
        }
        arrive(p, behind, b);
        return (int) behind;
    }

    int pool(int p, int q, int b) {
        if (!isOne(p) || !isOne(q) || p == q || !is(b)) {
            return -1;
        }
        long one = people.get(p)[0];
        long other = people.get(q)[0];
        if (one + other > MOST || one + other == 0 || becomes(b, one + other) < 0) {
            return -4;
        }
        long all = becomes(b, one + other);
        arrive(p, all * one / (one + other), b);
        arrive(q, all - all * one / (one + other), b);
        return people.get(p)[0];
    }

    int gives(int p, int q, int n) {
        if (!isOne(p) || !isOne(q) || p == q || n < 1 || n > MOST) {
            return -1;
        }
        if (people.get(p)[0] < n || (long) people.get(q)[0] + n > MOST) {
            return -4;
        }
        people.get(p)[0] -= n;
        people.get(q)[0] += n;
        return people.get(q)[0];
    }

    // ---- crossings

    private static boolean isPurse(int v) {
        return v >= 0 && v <= MOST;
    }

    private long behind(int[] b, long purse, int n) {
        int[] facts = nowOf(b);
        long has = purse;
        for (int i = 0; i < n; i++) {
            has = becomes(b, has, facts, 0);
        }
        return has;
    }

    int after(int b, int purse, int n) {
        if (!is(b) || !isPurse(purse) || n < 0 || n > 60) {
            return -1;
        }
        long has = behind(bridges.get(b), purse, n);
        return has < 0 ? -3 : (int) has;
    }

    int need(int b, int n) {
        if (!is(b) || n < 0 || n > 60) {
            return -1;
        }
        int[] facts = nowOf(bridges.get(b));
        for (int purse = 0; purse <= 60 * 1998; purse++) {
            long has = purse;
            for (int i = 0; i < n && has >= 0; i++) {
                has = becomes(bridges.get(b), has, facts, 0);
            }
            if (has >= 0) {
                return purse;
            }
        }
        return -3;
    }

    int ever(int b, boolean same) {
        if (!is(b)) {
            return -1;
        }
        int[] facts = nowOf(bridges.get(b));
        for (int purse = 0; purse <= 9999; purse++) {
            long has = becomes(bridges.get(b), purse, facts, 0);
            if (has >= 0 && (same ? has == purse : has >= purse)) {
                return purse;
            }
        }
        return -3;
    }

    int few(int b, int purse, int goal) {
        if (!is(b) || !isPurse(purse) || !isPurse(goal)) {
            return -1;
        }
        for (int n = 0; n <= 60; n++) {
            long has = behind(bridges.get(b), purse, n);
            if (has >= 0 && has >= goal) {
                return n;
            }
        }
        return -3;
    }

    int back(int b, int purse, int n, int i) {
        if (!is(b) || purse < 0 || purse > 99999 || n < 1 || n > 6 || i < -1) {
            return -1;
        }
        int[] facts = nowOf(bridges.get(b));
        List<Integer> found = new ArrayList<>();
        for (int from = 0; from <= 99999 + 6 * 2000; from++) {
            long has = from;
            for (int k = 0; k < n && has >= 0; k++) {
                has = becomes(bridges.get(b), has, facts, 0);
            }
            if (has == purse) {
                found.add(from);
            }
        }
        return i == -1 ? found.size() : i < found.size() ? found.get(i) : -3;
    }

    // ---- orders

    private boolean isSet(int set) {
        return set >= 0 && set < 1 << bridges.size();
    }

    private int[][] facts() {
        int[][] facts = new int[bridges.size()][];
        for (int b = 0; b < facts.length; b++) {
            facts[b] = nowOf(bridges.get(b));
        }
        return facts;
    }

    private int[] best;
    private long most;

    /** All orders by numbers: best is the first of those that make most. */
    private void tryOrders(int[][] facts, long has, int left, int[] order, int n) {
        if (has < 0) {
            return;
        }
        if (left == 0) {
            if (has > most) {
                most = has;
                best = Arrays.copyOf(order, n);
            }
            return;
        }
        for (int b = 0; b < bridges.size(); b++) {
            if ((left >> b & 1) == 1) {
                order[n] = b;
                tryOrders(facts, becomes(bridges.get(b), has, facts[b], 0), left & ~(1 << b), order, n + 1);
            }
        }
    }

    int rich(int purse, int set) {
        if (!isPurse(purse) || !isSet(set)) {
            return -1;
        }
        most = -3;
        tryOrders(facts(), purse, set, new int[9], 0);
        return (int) most;
    }

    int order(int purse, int set, int i) {
        if (!isPurse(purse) || !isSet(set) || i < 0 || i > 8) {
            return -1;
        }
        return rich(purse, set) < 0 || i >= best.length ? -3 : best[i];
    }

    private boolean someOrder(int[][] facts, long has, int left) {
        if (has < 0 || left == 0) {
            return has >= 0;
        }
        for (int b = 0; b < bridges.size(); b++) {
            if ((left >> b & 1) == 1 && someOrder(facts, becomes(bridges.get(b), has, facts[b], 0), left & ~(1 << b))) {
                return true;
            }
        }
        return false;
    }

    int poor(int set) {
        if (!isSet(set)) {
            return -1;
        }
        int[][] facts = facts();
        for (int b = 0; b < facts.length; b++) {
            if ((set >> b & 1) == 1 && facts[b][2] == 0) {
                return -3;
            }
        }
        for (int purse = 0; ; purse++) {
            if (someOrder(facts, purse, set)) {
                return purse;
            }
        }
    }

    /** The most that n crossings by any bridges make, each time by the best: more ahead is never less behind. */
    long mostBehind(long purse, int n) {
        long has = purse;
        for (int i = 0; i < n && has >= 0; i++) {
            long most = -1;
            for (int b = 0; b < bridges.size(); b++) {
                most = Math.max(most, becomes(b, has));
            }
            has = most;
        }
        return has;
    }

    private boolean reaches(int[][] facts, long has, long goal, int n, int[] row, int at) {
        if (n == 0) {
            return has >= goal;
        }
        for (int b = 0; b < bridges.size(); b++) {
            long then = becomes(bridges.get(b), has, facts[b], 0);
            row[at] = b;
            if (then >= 0 && reaches(facts, then, goal, n - 1, row, at + 1)) {
                return true;
            }
        }
        return false;
    }

    private int[] rowTo(int purse, int goal) {
        int[][] facts = facts();
        for (int n = 0; n <= DEEP; n++) {
            int[] row = new int[n];
            if (reaches(facts, purse, goal, n, row, 0)) {
                return row;
            }
        }
        return null;
    }

    int fast(int purse, int goal) {
        if (!isPurse(purse) || !isPurse(goal)) {
            return -1;
        }
        int[] row = rowTo(purse, goal);
        return row == null ? -999 : row.length;
    }

    int by(int purse, int goal, int i) {
        if (!isPurse(purse) || !isPurse(goal) || i < 0 || i > 59) {
            return -1;
        }
        int[] row = rowTo(purse, goal);
        return row == null ? -999 : i < row.length ? row[i] : -3;
    }

    int swap(int a, int b, int purse) {
        if (!is(a) || !is(b) || a == b || !isPurse(purse)) {
            return -1;
        }
        long one = becomes(a, purse) < 0 ? -1 : becomes(b, becomes(a, purse));
        long other = becomes(b, purse) < 0 ? -1 : becomes(a, becomes(b, purse));
        return one > other ? 1 : one < other ? 2 : 0;
    }

    // ---- the devil, loans, luck

    int devil(int b, int purse, int n) {
        if (!is(b) || purse < 0 || purse > 99999 || n < 1 || n > 20) {
            return -1;
        }
        int found = -3;
        for (int toll = 0; toll <= 999; toll++) {
            int[] with = bridges.get(b).clone();
            with[2] = toll;
            long has = behind(with, purse, n);
            if (has >= 0 && has >= purse) {
                found = toll;
            }
        }
        return found;
    }

    int rate(int b, int purse, int loan) {
        if (!is(b) || purse < 0 || purse > 99999 || loan < 1 || loan > 99999) {
            return -1;
        }
        long alone = becomes(b, purse);
        if (alone < 0) {
            return -3;
        }
        return (int) ((becomes(b, purse + loan) - alone - loan) * 100 / loan + 1000);
    }

    long worth(int b, int purse, int h, int n) {
        if (!is(b) || purse < 0 || purse > 9999 || h < 0 || h > 100 || n < 0 || n > 4) {
            return -1;
        }
        return meanOf(bridges.get(b), nowOf(bridges.get(b)), purse, h, n);
    }

    private long meanOf(int[] b, int[] facts, long purse, int h, int n) {
        long stay = purse;
        for (int i = 0; i < n; i++) {
            stay *= 100;
        }
        return Math.max(stay, goOn(b, facts, purse, h, n));
    }

    private long goOn(int[] b, int[] facts, long purse, int h, int n) {
        if (n == 0 || becomes(b, purse, facts, 0) < 0) {
            return Long.MIN_VALUE;
        }
        return h * meanOf(b, facts, becomes(b, purse, facts, 1), h, n - 1)
            + (100 - h) * meanOf(b, facts, becomes(b, purse, facts, 0), h, n - 1);
    }

    int stops(int b, int purse, int h, int n) {
        if (worth(b, purse, h, n) == -1) {
            return -1;
        }
        long stay = purse;
        for (int i = 0; i < n; i++) {
            stay *= 100;
        }
        return goOn(bridges.get(b), nowOf(bridges.get(b)), purse, h, n) > stay ? 0 : 1;
    }

    int meet(int p, int q, int b, int c) {
        if (!isOne(p) || !isOne(q) || p == q || !is(b) || !is(c)) {
            return -1;
        }
        long one = people.get(p)[0];
        long other = people.get(q)[0];
        for (int n = 0; n <= 60; n++) {
            long oneThen = behind(bridges.get(b), one, n);
            long otherThen = behind(bridges.get(c), other, n);
            if (oneThen < 0 || otherThen < 0) {
                return -3;
            }
            if (one <= other && oneThen >= otherThen || one > other && otherThen >= oneThen) {
                return n;
            }
        }
        return -3;
    }

    // ---- tales

    int tale(int from, int to) {
        if (from < 0 || from > 99999 || to < 0 || to > 99999) {
            return -1;
        }
        if (tales.size() == 6) {
            return -2;
        }
        tales.add(new int[] {from, to});
        return tales.size() - 1;
    }

    int forget() {
        int were = tales.size();
        tales = new ArrayList<>();
        return were;
    }

    private List<int[]> guesses(int kind, int without) {
        List<int[]> found = new ArrayList<>();
        for (int times = 1; times <= 9; times++) {
            for (int toll = 0; toll <= 999; toll++) {
                boolean all = true;
                for (int i = 0; i < tales.size() && all; i++) {
                    all = i == without || crossed(kind, times, toll, tales.get(i)[0]) == tales.get(i)[1];
                }
                if (all) {
                    found.add(new int[] {times, toll});
                }
            }
        }
        return found;
    }

    int fits(int kind, int what) {
        if (kind != 1 && kind != 2 && kind != 4 || what < 0 || what > 2) {
            return -1;
        }
        List<int[]> found = guesses(kind, -1);
        return what == 0 ? found.size() : found.isEmpty() ? -3 : found.get(0)[what - 1];
    }

    int liar(int kind) {
        if (kind != 1 && kind != 2 && kind != 4) {
            return -1;
        }
        if (!guesses(kind, -1).isEmpty()) {
            return -3;
        }
        for (int i = 0; i < tales.size(); i++) {
            if (!guesses(kind, i).isEmpty()) {
                return i;
            }
        }
        return -3;
    }

    // ---- rows

    int prove(int b, int purse, int n) {
        if (!is(b) || !isPurse(purse) || n < 1 || n > 20) {
            return -1;
        }
        rows.clear();
        for (int i = 1; i <= n && after(b, purse, i) >= 0; i++) {
            rows.add(new int[] {i, after(b, purse, i - 1), after(b, purse, i)});
        }
        return rows.size();
    }

    int row(int i, int what) {
        return i < 0 || i >= rows.size() || what < 0 || what > 2 ? -9 : rows.get(i)[what];
    }

    int alterRow(int i, int what, int v) {
        if (i < 0 || i >= rows.size() || what < 0 || what > 2) {
            return -9;
        }
        int was = rows.get(i)[what];
        rows.get(i)[what] = v;
        return was;
    }

    int judge(int b) {
        if (!is(b)) {
            return -1;
        }
        for (int i = 0; i < rows.size(); i++) {
            int[] r = rows.get(i);
            boolean right = r[0] == i + 1 && (i == 0 ? isPurse(r[1]) : r[1] == rows.get(i - 1)[2]);
            if (!right || becomes(b, r[1]) < 0 || becomes(b, r[1]) != r[2]) {
                return i + 1;
            }
        }
        return 0;
    }

    // ---- the host

    int sheet(int sheet, int sort, int n) {
        if (sheet < 0 || sheet > 3 || sort < -1 || sort > 4 || sort >= 0 && n > 40) {
            return -1;
        }
        if (sort >= 0 && n < 0) {
            return -14;
        }
        switch (sort) {
            case 0: sheets[sheet] = new byte[n]; break;
            case 1: sheets[sheet] = new short[n]; break;
            case 2: sheets[sheet] = new int[n]; break;
            case 3: sheets[sheet] = new long[n]; break;
            case 4: sheets[sheet] = new boolean[n]; break;
            default: sheets[sheet] = null; break;
        }
        return 1;
    }

    private static int sortOf(Object row) {
        return row instanceof byte[] ? 0 : row instanceof short[] ? 1 : row instanceof int[] ? 2 : row instanceof long[] ? 3 : 4;
    }

    int write(int sheet, int i, int v) {
        if (sheet < 0 || sheet > 3) {
            return -1;
        }
        Object row = sheets[sheet];
        if (row == null) {
            return -11;
        }
        if (i < 0 || i >= java.lang.reflect.Array.getLength(row)) {
            return -12;
        }
        switch (sortOf(row)) {
            case 0: ((byte[]) row)[i] = (byte) v; break;
            case 1: ((short[]) row)[i] = (short) v; break;
            case 2: ((int[]) row)[i] = v; break;
            case 3: ((long[]) row)[i] = v; break;
            default: ((boolean[]) row)[i] = v != 0; break;
        }
        return 1;
    }

    int item(int sheet, int sort, int i) {
        if (sheet < 0 || sheet > 3 || sort < 0 || sort > 4) {
            return -1;
        }
        Object row = sheets[sheet];
        if (row == null) {
            return -11;
        }
        if (sortOf(row) != sort) {
            return -13;
        }
        if (i < 0 || i >= java.lang.reflect.Array.getLength(row)) {
            return -12;
        }
        Object v = java.lang.reflect.Array.get(row, i);
        return v instanceof Boolean ? ((Boolean) v ? 1 : 0) : ((Number) v).intValue();
    }

    int walks(int p, int sheet, int i, int n) {
        if (!isOne(p) || sheet < 0 || sheet > 3 || n < 0 || n > 20) {
            return -1;
        }
        if (sheets[sheet] == null) {
            return -11;
        }
        if (sortOf(sheets[sheet]) != 0) {
            return -13;
        }
        byte[] row = (byte[]) sheets[sheet];
        int walked = 0;
        for (long at = i; at < (long) i + n; at++) {
            if (at < 0 || at >= row.length) {
                return -12;
            }
            walked += cross(p, row[(int) at]) >= 0 ? 1 : 0;
        }
        return walked;
    }

    int shelf(int shelf, int what, int n) {
        if (shelf < 0 || shelf > 3 || what < 0 || what > 2 || what == 0 && !is(n) || what == 1 && (n < 0 || n > 3)) {
            return -1;
        }
        shelves[shelf] = what == 0 ? (Object) Integer.valueOf(n) : what == 1 ? sheets[n] : null;
        return 1;
    }

    private Object held(int shelf) {
        Object thing = shelves[shelf];
        return thing instanceof Integer && !is((Integer) thing) ? null : thing;
    }

    int taken(int shelf, int as) {
        if (shelf < 0 || shelf > 3 || as < 0 || as > 14 || as > 5 && as < 10) {
            return -1;
        }
        Object thing = held(shelf);
        if (thing == null) {
            return -11;
        }
        if (thing instanceof Integer) {
            return as < 6 && under(bridges.get((Integer) thing)[0], as) ? (Integer) thing : -13;
        }
        return as >= 10 && sortOf(thing) == as - 10 ? java.lang.reflect.Array.getLength(thing) : -13;
    }

    int act(int shelf, int act, int x) {
        trace.clear();
        if (shelf < 0 || shelf > 3 || act < 0 || act > 3 || !(held(shelf) instanceof Integer)) {
            return 0;
        }
        int[] b = bridges.get((Integer) held(shelf));
        try {
            return run(b, act, x, b[0]);
        } catch (IllegalStateException parted) {
            return -15;
        }
    }

    /** The body of an act that a kind has, or of those above it. */
    private int run(int[] b, int act, int x, int kind) {
        int n = b[4];
        int a = b[3];
        int self = b[0];
        switch (kind * 10 + act) {
            case 10: trace.add(20); return run(b, 0, x, 0) * 3;
            case 21: trace.add(30); return run(b, 1, x, 0) - a;
            case 30: trace.add(50); return run(b, 0, x, 2) ^ n;
            case 33: trace.add(51); return run(b, 3, x, 2) + run(b, 2, n, self);
            case 42: trace.add(40); return run(b, 2, x + 1, 0);
            case 51: trace.add(60); return 0 - run(b, 1, x, 4);
            case 52: trace.add(61); return run(b, 2, x, 4) + run(b, 0, a, self);
            case 0: trace.add(10); return x + n;
            case 1: trace.add(11); return run(b, 0, x, self) * 2;
            case 2:
                trace.add(12);
                if (a == n) {
                    throw new IllegalStateException();
                }
                return x / (a - n);
            case 3: trace.add(13); return run(b, 1, x, self) ^ a;
            default: return run(b, act, x, kind == 3 ? 2 : kind == 5 ? 4 : 0);
        }
    }

    int many(int what) {
        int[] sizes = {bridges.size(), people.size(), law.size(), tales.size(), rows.size(), 0, trace.size()};
        return what < 0 || what > 6 ? -1 : sizes[what];
    }

    // ---- kept

    private static List<int[]> copied(List<int[]> list) {
        List<int[]> copy = new ArrayList<>();
        for (int[] each : list) {
            copy.add(each.clone());
        }
        return copy;
    }

    private void take(SlowModel other) {
        bridges = copied(other.bridges);
        people = copied(other.people);
        tales = copied(other.tales);
        law = other.law;
        day = other.day;
    }

    int keep() {
        kept = new SlowModel();
        kept.take(this);
        return 1;
    }

    int again() {
        if (kept == null) {
            return -3;
        }
        take(kept);
        return bridges.size();
    }
}
