/** For each promise of ../shared/DOC.md: ordinary inputs, the edges that the document names, wrong inputs. */
public final class PromiseTests {
    private static final int MOST = 1000000000;
    private static int promise = 0;
    private static int calls = 0;
    private static int wrong = 0;

    private static void due(String what, long got, long want) {
        calls++;
        if (got != want) {
            wrong++;
            System.out.println("promise " + promise + ": " + what + " answered " + got + ", due is " + want);
        }
    }

    private static int told(DoubledBridge x, String text) {
        return Texts.law(x, text);
    }

    /** Plain 2/8 on 0, stream 2/8 on 0, egg 3/5 on 1, mill 2/4 on 2, market 2/9 on 3. */
    private static DoubledBridge five() {
        DoubledBridge x = new DoubledBridge();
        x.bridge(1, 2, 8, 0);
        x.bridge(2, 2, 8, 0);
        x.bridge(4, 3, 5, 1);
        x.bridge(3, 2, 4, 2);
        x.bridge(5, 2, 9, 3);
        x.day(4);
        return x;
    }

    public static void main(String[] args) {
        road();
        laws();
        faults();
        people();
        crossings();
        orders();
        luck();
        tales();
        rows();
        sheets();
        shelves();
        acts();
        kept();
        System.out.println(calls + " calls, " + wrong + " wrong");
        if (wrong != 0) {
            System.exit(1);
        }
    }

    private static void road() {
        promise = 1;
        DoubledBridge x = new DoubledBridge();
        for (int what = 0; what <= 6; what++) {
            due("many " + what, x.many(what), 0);
        }
        due("again of nothing", x.again(), -3);
        due("the day", x.day(0), 0);
        due("no trace", x.trace(0), -3);
        due("no sheet", x.item(0, 0, 0), -11);
        due("no shelf's thing", x.taken(0, 0), -11);
        due("no row", x.row(0, 0), -9);
        due("rich of none", x.rich(5, 0), 5);

        promise = 2;
        due("kind 0", x.bridge(0, 1, 0, 0), -1);
        due("kind 6", x.bridge(6, 1, 0, 0), -1);
        due("times 0", x.bridge(1, 0, 0, 0), -1);
        due("times 10", x.bridge(1, 10, 0, 0), -1);
        due("toll -1", x.bridge(1, 1, -1, 0), -1);
        due("toll 1000", x.bridge(1, 1, 1000, 0), -1);
        due("feast -1", x.bridge(1, 1, 0, -1), -1);
        due("feast 7", x.bridge(1, 1, 0, 7), -1);
        for (int b = 0; b < 9; b++) {
            due("bridge", x.bridge(b % 5 + 1, b + 1, 111 * b, b % 7), b);
        }
        due("tenth", x.bridge(1, 1, 0, 0), -2);
        due("tenth that is bad", x.bridge(1, 1, 0, 7), -1);
        due("nine", x.many(0), 9);

        promise = 3;
        x.day(6);
        int[][] facts = {{1, 1, 0, 0}, {2, 2, 111, 1}, {3, 3, 222, 2}, {4, 4, 333, 3}, {5, 5, 444, 4},
            {1, 6, 555, 5}, {2, 7, 666, 6}, {3, 8, 777, 0}, {4, 9, 888, 1}};
        for (int b = 0; b < 9; b++) {
            for (int what = 0; what < 4; what++) {
                due("fact", x.bridgeOf(b, what), facts[b][what]);
            }
            due("times now", x.bridgeOf(b, 4), facts[b][1]);
            due("toll now", x.bridgeOf(b, 5), facts[b][2]);
            due("open", x.bridgeOf(b, 6), 1);
        }
        x.day(2);
        due("mill on its feast", x.bridgeOf(2, 4), 4);
        due("mill's toll on its feast", x.bridgeOf(2, 5), 222);
        due("mill's times as told", x.bridgeOf(2, 1), 3);
        x.day(4);
        due("market on its feast", x.bridgeOf(4, 5), 222);
        due("market's times on its feast", x.bridgeOf(4, 4), 5);
        due("egg off", x.bridgeOf(3, 5), 333);
        x.day(1);
        due("stream on its feast", x.bridgeOf(1, 4), 2);
        due("egg's toll on its feast", x.bridgeOf(8, 5), 888);
        due("bridge -1", x.bridgeOf(-1, 0), -1);
        due("bridge 9", x.bridgeOf(9, 0), -1);
        due("what -1", x.bridgeOf(0, -1), -1);
        due("what 7", x.bridgeOf(0, 7), -1);

        promise = 4;
        x = five();
        due("times", x.change(3, 1, 9), 2);
        due("times then", x.bridgeOf(3, 1), 9);
        due("toll", x.change(3, 2, 999), 4);
        due("toll then", x.bridgeOf(3, 2), 999);
        due("toll now then", x.bridgeOf(3, 5), 999);
        due("feast", x.change(3, 3, 4), 2);
        due("feast counts at once", x.bridgeOf(3, 4), 10);
        due("what 0", x.change(3, 0, 1), -1);
        due("what 4", x.change(3, 4, 1), -1);
        due("no such", x.change(5, 1, 1), -1);
        due("below 0", x.change(-1, 1, 1), -1);
        due("times 0", x.change(3, 1, 0), -1);
        due("times 10", x.change(3, 1, 10), -1);
        due("toll -1", x.change(3, 2, -1), -1);
        due("toll 1000", x.change(3, 2, 1000), -1);
        due("feast -1", x.change(3, 3, -1), -1);
        due("feast 7", x.change(3, 3, 7), -1);
        due("nothing changed", x.bridgeOf(3, 2), 999);

        promise = 5;
        due("mill to market", x.mend(3, 5), 3);
        due("market now", x.bridgeOf(3, 0), 5);
        due("half the toll on its feast", x.bridgeOf(3, 5), 499);
        due("times as told", x.bridgeOf(3, 4), 9);
        due("one again", x.mend(3, 5), 5);
        due("kind 0", x.mend(3, 0), -1);
        due("kind 6", x.mend(3, 6), -1);
        due("no such", x.mend(5, 1), -1);
        due("below 0", x.mend(-1, 1), -1);
        due("plain by now", x.mend(3, 1), 5);
        due("plain", x.after(3, 200, 1), 801);
        due("how many still", x.many(0), 5);

        promise = 6;
        due("day", x.day(0), 4);
        due("day 6", x.day(6), 0);
        due("day -1", x.day(-1), -1);
        due("day 7", x.day(7), -1);
        due("day stays", x.day(3), 6);
        due("market's feast", x.bridgeOf(4, 5), 4);
    }

    private static void laws() {
        promise = 7;
        DoubledBridge x = five();
        due("n 0", x.feed(1L, 0), -1);
        due("n 9", x.feed(1L, 9), -1);
        due("n 3", x.feed(0x20676765L, 3), 3);
        due("lowest first", x.law(), -103);
        for (int i = 0; i < 24; i++) {
            x.feed(0x2020202020202020L, 8);
        }
        due("199", x.feed(0x20202020202020L, 7), 199);
        due("201", x.feed(0x2020L, 2), -2);
        due("nothing came", x.many(5), 199);
        due("bad when full", x.feed(0L, 9), -1);
        due("200", x.feed(0x20L, 1), 200);
        due("one more", x.feed(0x20L, 1), -2);
        due("200 blanks", x.law(), 0);
        due("used up", x.many(5), 0);
        due("eight bytes, the highest too", x.feed(0x8000000000000000L, 8), 8);
        due("a byte 0", x.law(), -100);
        due("high byte", told(x, "egg free;\u00e9"), -109);

        promise = 8;
        due("none", x.law(), 0);
        due("free", told(x, "plain free;"), 1);
        due("plain is free", x.bridgeOf(0, 5), 0);
        due("stream isn't", x.bridgeOf(1, 5), 8);
        due("dear for bridges", told(x, "bridge dear 999;"), 1);
        for (int b = 0; b < 5; b++) {
            due("dear", x.bridgeOf(b, 5), x.bridgeOf(b, 2) + 999);
            due("times not", x.bridgeOf(b, 4), x.bridgeOf(b, 1));
        }
        x.day(3);
        due("half of dear", x.bridgeOf(4, 5), 504);
        due("stream and mill", told(x, "stream double;"), 1);
        x.day(2);
        int[] times = {2, 3, 3, 4, 2};
        for (int b = 0; b < 5; b++) {
            due("double", x.bridgeOf(b, 4), times[b]);
        }
        due("mill alone", told(x, "mill shut;"), 1);
        int[] open = {1, 1, 1, 0, 1};
        for (int b = 0; b < 5; b++) {
            due("open", x.bridgeOf(b, 6), open[b]);
        }
        due("egg and market", told(x, "egg shut;"), 1);
        due("egg", x.bridgeOf(2, 6), 0);
        due("market", x.bridgeOf(4, 6), 0);
        due("mill again", x.bridgeOf(3, 6), 1);
        due("market alone", told(x, "market shut;"), 1);
        due("egg not", x.bridgeOf(2, 6), 1);
        due("the first counts", told(x, "mill dear 3;stream free;bridge if 1=2 shut;bridge dear 7;"), 4);
        int[] tolls = {15, 0, 12, 7, 16};
        for (int b = 0; b < 5; b++) {
            due("first", x.bridgeOf(b, 5), tolls[b]);
        }
        due("a change of the kind asks anew", x.mend(1, 3), 2);
        due("dear by 3", x.bridgeOf(1, 5), 11);
        x.mend(1, 2);
        due("a new one is asked for, too", x.bridge(3, 1, 1, 0), 5);
        due("dear by 3", x.bridgeOf(5, 5), 4);

        conditions();
    }

    private static void conditions() {
        // Each condition with the bridges of five(), as bits, by which it holds on day 2.
        String[] asked = {"number=3", "number<3", "number>3", "3<number", "day=2", "day=1", "times=2", "times>2",
            "toll=8", "toll<9", "toll=feast", "feast=day", "feast>1", "9999>toll", "0=0", "0000<0001",
            "not number=3", "not not number=3", "not not not number = 3", "number=1 or number=2",
            "number>0 and number<3", "number=0 or number=1 and toll=9", "number=1 and toll=9 or number=0",
            "(number=0 or number=1)and toll=9", "(number=0 or number=1)and toll=8", "not number=0 and toll=8",
            "not(number=0 and toll=8)", "not number=0 or number=0", "not(number=0 or number=1)",
            "((number=0))or not(not(number>2)or number=4)", "(((number=4)))", "number=1and number=1or number=2",
            "not(number=0)and(not(number=1)or toll=9)", "number = 0 or number = 2 or number = 4",
            "1<1 or number=0 and 1=1 and 2>1 or number=3"};
        int[] holds = {8, 7, 16, 16, 31, 0, 27, 4,
            3, 15, 0, 8, 24, 31, 31, 31,
            23, 8, 23, 6,
            6, 1, 1,
            0, 3, 2,
            30, 31, 28,
            9, 16, 6,
            28, 21,
            9};
        for (int i = 0; i < asked.length; i++) {
            DoubledBridge x = five();
            x.day(2);
            due(asked[i], told(x, "bridge if " + asked[i] + (asked[i].endsWith(")") ? "shut;" : " shut;")), 1);
            int shut = 0;
            for (int b = 0; b < 5; b++) {
                shut |= (1 - x.bridgeOf(b, 6)) << b;
            }
            due(asked[i] + " holds", shut, holds[i]);
        }
        DoubledBridge x = five();
        told(x, "mill if times=2 double;market if toll=9 dear 5;");
        x.day(2);
        due("the facts are as told", x.bridgeOf(3, 4), 4);
        x.day(3);
        due("the toll as told", x.bridgeOf(4, 5), 7);
        told(x, "bridge if feast=day shut;");
        due("a day asked", x.bridgeOf(4, 6), 0);
        x.day(5);
        due("another day", x.bridgeOf(4, 6), 1);
        x.change(0, 3, 5);
        due("a feast changed", x.bridgeOf(0, 6), 0);
    }

    private static void faults() {
        String[] text = {"egg", "egg ", "egg free", "egg free ;", " egg\tfree;", "free;", "eggs free;", "Egg free;",
            "egg dear;", "egg dear 1000;", "egg dear 0999;", "egg dear 00001;", "egg dear10;", "egg double 1;",
            "egg if free;", "egg if 1 free;", "egg if 1<;", "egg if 1<2;", "egg if 1<2 3;", "egg if 1<=2 free;",
            "egg if 10000<2 free;", "egg if 2<10000 free;", "egg if 9999<0009 free;", "egg if (1<2 free;",
            "egg if 1<2) free;", "egg if ((((1<2)))) free;", "egg if (((1<2))) and (((2<3))) free;",
            "egg if not free;", "egg if 1<2 and free;", "egg if 1<2 or or 1<2 free;", "egg if not not 1<2free;",
            "egg if kind=1 free;", "egg if 1<2 not 1<2 free;", "egg shut;;", "egg shut;x", "egg shut; 5",
            "egg if(1<2)or(1<2)and not(1<2)free;", "egg if () free;", "egg 12345;", "12345", "egg dear -1;",
            "egg if day<times free; plain shut", "egg if 1<2 and", "egg if (", "egg if not", "egg if 1", "egg dear",
            "eggfree;", "eggz free;", "zegg free;", "aegg free;", "egg free;egg", "egg if dayday<1 free;", "egg if 1<2andday=1 free;", "egg if day<1and day=1 free;"};
        int[] answer = {-103, -104, -108, 1, -104, -100, -100, -100,
            -108, -109, 1, -109, 1, -111,
            -107, -109, -109, -110, -111, -109,
            -107, -109, 1, -112,
            -110, -110, 1,
            -111, -115, -114, 1,
            -107, -111, -109, -109, -110,
            1, -108, -104, -100, -109,
            -133, -114, -108, -110, -108, -108,
            -100, -100, -100, -100, -112, -107, -110, 1};
        for (int i = 0; i < text.length; i++) {
            DoubledBridge x = five();
            due(text[i], told(x, text[i]), answer[i]);
            due("used up", x.many(5), 0);
        }
        DoubledBridge x = five();
        StringBuilder many = new StringBuilder();
        for (int i = 0; i < 8; i++) {
            many.append("plain shut;");
        }
        due("eight", told(x, many.toString()), 8);
        due("clauses", x.many(2), 8);
        due("nine", told(x, many + " plain shut;"), -189);
        due("nine that is none", told(x, many + " ;"), -189);
        due("the law stays", x.many(2), 8);
        due("shut still", x.bridgeOf(0, 6), 0);
        due("nine, when the first is wrong", told(x, "plain;" + many), -105);
        due("the new one counts alone", told(x, "plain dear 1;"), 1);
        due("open again", x.bridgeOf(0, 6), 1);
        StringBuilder whole = new StringBuilder("egg if 1<1");
        while (whole.length() + 7 <= 195) {
            whole.append("or 1<1");
        }
        while (whole.length() < 194) {
            whole.append(' ');
        }
        due("200 bytes", told(x, whole + " shut;"), 1);
        due("none holds", x.bridgeOf(2, 6), 1);
        StringBuilder nots = new StringBuilder("egg if ");
        for (int i = 0; i < 45; i++) {
            nots.append("not ");
        }
        due("45 nots", told(x, nots + "1<1shut;"), 1);
        due("turned", x.bridgeOf(2, 6), 0);
    }

    private static void people() {
        promise = 9;
        DoubledBridge x = five();
        due("purse -1", x.person(-1), -1);
        due("purse above", x.person(MOST + 1), -1);
        for (int p = 0; p < 6; p++) {
            due("person", x.person(p == 5 ? MOST : 20 * p), p);
        }
        due("seventh", x.person(1), -2);
        due("bad seventh", x.person(-1), -1);
        due("six", x.many(1), 6);

        promise = 10;
        due("purse", x.personOf(2, 0), 40);
        due("crossed", x.personOf(2, 1), 0);
        due("last", x.personOf(2, 2), -9);
        due("what 3", x.personOf(2, 3), -1);
        due("what -1", x.personOf(2, -1), -1);
        due("person 6", x.personOf(6, 0), -1);
        due("person -1", x.personOf(-1, 0), -1);

        promise = 11;
        due("purse", x.purse(2, 41), 40);
        due("purse then", x.personOf(2, 0), 41);
        due("most", x.purse(2, MOST), 41);
        due("above", x.purse(2, MOST + 1), -1);
        due("below", x.purse(2, -1), -1);
        due("none", x.purse(2, 0), MOST);
        due("person 6", x.purse(6, 0), -1);
        due("person -1", x.purse(-1, 0), -1);

        promise = 12;
        due("plain", x.cross(1, 0), 32);
        due("crossed", x.personOf(1, 1), 1);
        due("last", x.personOf(1, 2), 0);
        due("stream", x.cross(1, 1), 48);
        due("egg", x.cross(1, 2), 138);
        due("mill", x.cross(1, 3), 268);
        due("market", x.cross(1, 4), 526);
        due("crossed", x.personOf(1, 1), 5);
        due("last", x.personOf(1, 2), 4);
        due("with nothing", x.cross(0, 0), -4);
        due("not crossed", x.personOf(0, 1), 0);
        due("the most", x.cross(5, 2), MOST);
        due("person 6", x.cross(6, 0), -1);
        due("bridge 5", x.cross(0, 5), -1);
        due("bridge -1", x.cross(0, -1), -1);
        told(x, "plain shut;");
        due("shut", x.cross(1, 0), -4);
        told(x, "");
        x.purse(0, 4);
        due("to nothing", x.cross(0, 0), 0);

        promise = 13;
        x = five();
        x.person(7);
        x.person(3);
        x.person(0);
        x.person(MOST);
        due("pool", x.pool(0, 1, 0), 8);
        due("the other one", x.personOf(1, 0), 4);
        due("crossed both", x.personOf(0, 1) + x.personOf(1, 1), 2);
        due("last of one", x.personOf(0, 2), 0);
        due("last of the other", x.personOf(1, 2), 0);
        due("cut", x.pool(1, 0, 2), 10);
        due("the rest", x.personOf(0, 0), 20);
        due("one with nothing", x.pool(2, 0, 1), 0);
        due("all to the other", x.personOf(0, 0), 24);
        due("too much", x.pool(0, 3, 0), -4);
        x.purse(0, 0);
        due("just as much as may be", x.pool(3, 0, 0), MOST);
        due("both nothing", x.pool(0, 2, 0), -4);
        due("one and the same", x.pool(0, 0, 0), -1);
        due("person 4", x.pool(0, 4, 0), -1);
        due("person -1", x.pool(-1, 0, 0), -1);
        due("bridge 5", x.pool(0, 1, 5), -1);
        x.purse(0, 1);
        x.purse(1, 2);
        due("can't be crossed", x.pool(0, 1, 0), -4);
        due("nothing changed", x.personOf(0, 1) * 10 + x.personOf(0, 0), 41);
        x.purse(0, 400000000);
        x.purse(1, 500000000);
        due("great purses", x.pool(0, 1, 0), 444444444);
        due("the rest of it", x.personOf(1, 0), 555555556);
        x.change(0, 2, 0);
        x.purse(0, 0);
        x.purse(1, 0);
        due("both nothing, without a toll", x.pool(0, 1, 0), -4);
        x.purse(1, 1);
        due("next to nothing", x.pool(0, 1, 0), 0);
        x.change(0, 2, 2);
        due("to nothing", x.pool(1, 0, 0), 2);
        x.purse(1, 1);
        due("to nothing at all", x.pool(1, 0, 0), 0);

        promise = 14;
        x = five();
        x.person(20);
        x.person(5);
        x.person(MOST);
        due("gives", x.gives(0, 1, 3), 8);
        due("the giver", x.personOf(0, 0), 17);
        due("not crossed", x.personOf(0, 1), 0);
        due("all", x.gives(0, 1, 17), 25);
        due("less than n", x.gives(0, 1, 1), -4);
        due("above", x.gives(1, 2, 1), -4);
        due("up to the most", x.gives(2, 0, 1), 1);
        due("to the most", x.gives(0, 2, 1), MOST);
        due("n 0", x.gives(1, 0, 0), -1);
        due("n above", x.gives(2, 0, MOST + 1), -1);
        due("n the most", x.gives(2, 0, MOST), MOST);
        due("one and the same", x.gives(1, 1, 1), -1);
        due("person 3", x.gives(0, 3, 1), -1);
        due("person -1", x.gives(-1, 0, 1), -1);
    }

    private static void crossings() {
        promise = 15;
        DoubledBridge x = five();
        due("plain", x.after(0, 10, 3), 24);
        due("stream", x.after(1, 20, 2), 32);
        due("egg, an odd coin", x.after(2, 4, 1), 6);
        due("egg, none odd", x.after(2, 5, 1), 10);
        due("mill", x.after(3, 10, 1), 12);
        due("market, an odd coin", x.after(4, 10, 1), 10);
        due("n 0", x.after(0, 3, 0), 3);
        due("to 0", x.after(0, 4, 1), 0);
        due("not so often", x.after(0, 4, 2), -3);
        due("the most", x.after(0, MOST, 60), MOST);
        due("just above", x.after(0, 500000005, 1), MOST);
        due("just the most", x.after(0, 500000004, 1), MOST);
        due("just below", x.after(2, 333333335, 1), MOST);
        due("bridge", x.after(5, 3, 0), -1);
        due("purse -1", x.after(0, -1, 0), -1);
        due("purse above", x.after(0, MOST + 1, 0), -1);
        due("n -1", x.after(0, 1, -1), -1);
        due("n 61", x.after(0, 1, 61), -1);
        told(x, "plain shut;");
        due("shut", x.after(0, 100, 1), -3);
        due("shut, n 0", x.after(0, 100, 0), 100);
        told(x, "plain double;");
        due("double", x.after(0, 100, 1), 292);
        told(x, "");

        promise = 16;
        due("once", x.need(0, 1), 4);
        due("twice", x.need(0, 2), 6);
        due("60 times", x.need(0, 60), 8);
        due("0 times", x.need(0, 0), 0);
        due("stream", x.need(1, 2), 12);
        due("egg", x.need(2, 2), 3);
        x.change(0, 1, 1);
        due("by one", x.need(0, 60), 480);
        due("n 61", x.need(0, 61), -1);
        due("n -1", x.need(0, -1), -1);
        due("bridge", x.need(5, 1), -1);
        told(x, "bridge shut;");
        due("shut", x.need(0, 1), -3);
        due("shut, 0 times", x.need(0, 0), 0);
        told(x, "");

        promise = 17;
        due("plain by one", x.ever(0), -3);
        due("stream", x.ever(1), 16);
        due("egg", x.ever(2), 3);
        due("market", x.ever(4), 10);
        due("bridge", x.ever(5), -1);
        due("bridge", x.ever(-1), -1);
        x.change(0, 2, 0);
        due("no toll", x.ever(0), 0);
        x.change(0, 2, 999);
        x.change(0, 1, 2);
        due("great toll", x.ever(0), 999);
        told(x, "bridge shut;");
        due("shut", x.ever(1), -3);
        told(x, "");

        promise = 18;
        due("plain", x.same(0), 999);
        due("stream", x.same(1), 16);
        due("egg, never", x.same(2), -3);
        due("mill", x.same(3), 8);
        due("market", x.same(4), 10);
        due("bridge", x.same(5), -1);
        x.change(0, 1, 1);
        due("always less", x.same(0), -3);
        x.change(0, 2, 0);
        due("always the same", x.same(0), 0);
        told(x, "bridge shut;");
        due("shut", x.same(0), -3);
        told(x, "");

        promise = 19;
        x = five();
        due("few", x.few(0, 9, 12), 2);
        due("not yet", x.few(0, 9, 13), 3);
        due("at once", x.few(0, 3, 3), 0);
        due("never more", x.few(0, 8, 9), -3);
        due("less and less", x.few(0, 7, 8), -3);
        due("goal 0", x.few(0, 0, 0), 0);
        due("the most", x.few(0, 9, MOST), 30);
        x.change(0, 2, 0);
        x.change(0, 1, 1);
        due("stays", x.few(0, 5, 6), -3);
        x.bridge(1, 1, 999, 0);
        due("goal above", x.few(0, 9, MOST + 1), -1);
        due("goal below", x.few(0, 9, -1), -1);
        due("purse above", x.few(0, MOST + 1, 1), -1);
        due("purse below", x.few(0, -1, 1), -1);
        due("bridge", x.few(6, 1, 1), -1);
        told(x, "bridge shut;");
        due("shut", x.few(1, 20, 21), -3);
        due("shut, at once", x.few(1, 20, 20), 0);

        promise = 20;
        x = five();
        x.bridge(4, 1, 3, 0);
        due("one", x.back(0, 12, 1, -1), 1);
        due("it", x.back(0, 12, 1, 0), 10);
        due("no second", x.back(0, 12, 1, 1), -3);
        due("none", x.back(0, 13, 1, -1), 0);
        due("no first", x.back(0, 13, 1, 0), -3);
        due("two", x.back(5, 10, 1, -1), 2);
        due("the least", x.back(5, 10, 1, 0), 13);
        due("the other", x.back(5, 10, 1, 1), 14);
        due("odd: none", x.back(5, 11, 1, -1), 0);
        due("by six", x.back(5, 0, 6, -1), 2);
        due("by six, least", x.back(5, 0, 6, 0), 23);
        due("stream", x.back(1, 32, 2, 0), 20);
        due("great", x.back(0, 99998, 1, 0), 50003);
        due("99999", x.back(0, 99999, 1, -1), 0);
        due("100000", x.back(0, 100000, 1, -1), -1);
        due("below", x.back(0, -1, 1, -1), -1);
        due("n 0", x.back(0, 1, 0, -1), -1);
        due("n 7", x.back(0, 1, 7, -1), -1);
        due("i -2", x.back(0, 1, 1, -2), -1);
        due("bridge", x.back(6, 1, 1, -1), -1);
        due("i great", x.back(0, 12, 1, Integer.MAX_VALUE), -3);
        told(x, "bridge shut;");
        due("shut", x.back(0, 12, 1, -1), 0);
        due("shut", x.back(0, 12, 1, 0), -3);
    }

    private static void orders() {
        promise = 21;
        DoubledBridge x = five();
        due("none", x.rich(20, 0), 20);
        due("one", x.rich(20, 1), 32);
        due("two", x.rich(20, 5), 100);
        due("all", x.rich(20, 31), 732);
        due("all of the most", x.rich(MOST, 31), MOST);
        due("not enough", x.rich(2, 1), -3);
        due("purse -1", x.rich(-1, 0), -1);
        due("purse above", x.rich(MOST + 1, 0), -1);
        due("set 32", x.rich(20, 32), -1);
        due("set -1", x.rich(20, -1), -1);
        told(x, "egg shut;");
        due("shut", x.rich(20, 4), -3);
        due("shut within", x.rich(20, 5), -3);
        due("others", x.rich(20, 1), 32);
        told(x, "");

        promise = 22;
        int[] first = {2, 0, 3, 4, 1};
        for (int i = 0; i < 5; i++) {
            due("first", x.order(20, 31, i), first[i]);
        }
        for (int i = 5; i < 9; i++) {
            due("no more", x.order(20, 31, i), -3);
        }
        due("i 9", x.order(20, 31, 9), -1);
        due("i -1", x.order(20, 31, -1), -1);
        due("purse -1", x.order(-1, 31, 0), -1);
        due("set 32", x.order(20, 32, 0), -1);
        due("none", x.order(20, 0, 0), -3);
        due("not crossed", x.order(2, 3, 0), -3);
        x.bridge(1, 1, 0, 0);
        x.bridge(1, 1, 0, 0);
        due("alike: by numbers", x.order(20, 96, 0), 5);
        due("alike: then", x.order(20, 96, 1), 6);
        due("as rich by numbers", x.order(20, 33, 0), 0);
        due("all the most: by numbers", x.order(MOST, 31, 2), 2);

        promise = 23;
        due("none", x.poor(0), 0);
        due("one", x.poor(1), 4);
        due("two", x.poor(3), 8);
        due("all", x.poor(31), 5);
        due("set 128", x.poor(128), -1);
        due("set -1", x.poor(-1), -1);
        told(x, "egg shut;");
        due("shut", x.poor(4), -3);
        due("shut within", x.poor(31), -3);
        due("not shut", x.poor(3), 8);
        told(x, "");

        promise = 24;
        x = five();
        due("at once", x.fast(20, 20), 0);
        due("once", x.fast(20, 54), 1);
        due("twice", x.fast(20, 55), 2);
        due("twice", x.fast(20, 156), 2);
        due("three times", x.fast(20, 157), 3);
        due("the most", x.fast(20, MOST), 17);
        due("never", x.fast(1, 2), -3);
        due("goal above", x.fast(20, MOST + 1), -1);
        due("goal below", x.fast(20, -1), -1);
        due("purse above", x.fast(MOST + 1, 1), -1);
        due("purse below", x.fast(-1, 1), -1);
        due("no bridges", new DoubledBridge().fast(1, 2), -3);
        due("no bridges, at once", new DoubledBridge().fast(2, 2), 0);
        DoubledBridge slow = new DoubledBridge();
        slow.bridge(1, 2, 999, 0);
        due("slowly", slow.fast(1000, MOST), 30);
        slow.change(0, 1, 1);
        slow.change(0, 2, 0);
        due("never more", slow.fast(1000, 1001), -3);

        promise = 25;
        due("first", x.by(20, 100, 0), 2);
        due("second", x.by(20, 100, 1), 0);
        due("no third", x.by(20, 100, 2), -3);
        due("none at once", x.by(20, 20, 0), -3);
        due("none ever", x.by(1, 2, 0), -3);
        due("i 60", x.by(20, 100, 60), -1);
        due("i -1", x.by(20, 100, -1), -1);
        due("i 59", x.by(20, 100, 59), -3);
        due("goal above", x.by(20, MOST + 1, 0), -1);
        due("purse below", x.by(-1, 1, 0), -1);
        due("by numbers", x.by(20, 30, 0), 0);
        due("by numbers", x.by(20, 33, 0), 2);

        promise = 26;
        due("one first", x.swap(0, 1, 20), 1);
        due("the other first", x.swap(1, 0, 20), 2);
        due("just as much", x.swap(0, 1, MOST), 0);
        due("neither", x.swap(0, 1, 3), 0);
        due("neither", x.swap(2, 0, 2), 0);
        due("only one way", x.swap(2, 0, 3), 1);
        due("only one way", x.swap(2, 0, 4), 1);
        due("only the other way", x.swap(1, 2, 7), 2);
        due("one and the same", x.swap(1, 1, 20), -1);
        due("bridge 5", x.swap(0, 5, 20), -1);
        due("bridge -1", x.swap(-1, 0, 20), -1);
        due("purse", x.swap(0, 1, -1), -1);
        due("purse above", x.swap(0, 1, MOST + 1), -1);
    }

    private static void luck() {
        promise = 27;
        DoubledBridge x = five();
        due("plain", x.devil(0, 100, 1), 100);
        due("stream", x.devil(1, 100, 1), 50);
        due("stream, twice", x.devil(1, 100, 2), 50);
        due("egg", x.devil(2, 51, 1), 101);
        due("egg", x.devil(2, 50, 1), 100);
        due("great", x.devil(0, 99999, 20), 999);
        due("toll stays", x.bridgeOf(0, 2), 8);
        due("purse above", x.devil(0, 100000, 1), -1);
        due("purse below", x.devil(0, -1, 1), -1);
        due("n 0", x.devil(0, 1, 0), -1);
        due("n 21", x.devil(0, 1, 21), -1);
        due("bridge", x.devil(5, 1, 1), -1);
        told(x, "plain if toll>50 free;");
        due("free above 50", x.devil(0, 3, 20), 999);
        told(x, "plain if toll>50 shut;");
        due("shut above 50", x.devil(0, 100, 20), 50);
        told(x, "plain if toll<60 dear 999;");
        due("dear below 60", x.devil(0, 40, 1), -3);
        due("dear below 60", x.devil(0, 60, 1), 60);
        told(x, "plain shut;");
        due("shut", x.devil(0, 100, 1), -3);
        told(x, "");
        x.day(3);
        due("market on its feast", x.devil(4, 100, 1), 201);

        promise = 28;
        x = five();
        due("plain", x.rate(0, 20, 10), 1100);
        due("egg", x.rate(2, 20, 3), 1233);
        due("egg", x.rate(2, 21, 3), 1166);
        due("bridge by one", x.change(2, 1, 1), 3);
        due("less than lent", x.rate(2, 21, 1), 900);
        due("less than lent, cut", x.rate(2, 21, 3), 967);
        due("without it", x.rate(0, 3, 10), -3);
        due("just without it", x.rate(0, 4, 10), 1100);
        due("loan 0", x.rate(0, 20, 0), -1);
        due("loan above", x.rate(0, 20, 100000), -1);
        due("greatest", x.rate(0, 99999, 99999), 1100);
        due("purse above", x.rate(0, 100000, 1), -1);
        due("purse below", x.rate(0, -1, 1), -1);
        due("bridge", x.rate(5, 1, 1), -1);

        promise = 29;
        x = five();
        due("0 times", x.worth(0, 10, 50, 0), 10);
        due("half and half", x.worth(0, 10, 50, 1), 1700);
        due("no luck", x.worth(0, 10, 0, 1), 1200);
        due("all luck", x.worth(0, 10, 100, 1), 2200);
        due("twice", x.worth(0, 10, 0, 2), 160000);
        due("one stops", x.worth(0, 5, 0, 1), 500);
        due("one stops or not", x.worth(0, 6, 30, 2), 73000);
        due("can't be crossed", x.worth(0, 3, 100, 4), 300000000L);
        due("egg, luck", x.worth(2, 4, 50, 1), 800);
        due("purse above", x.worth(0, 10000, 0, 0), -1);
        due("purse below", x.worth(0, -1, 0, 0), -1);
        due("h above", x.worth(0, 1, 101, 0), -1);
        due("h below", x.worth(0, 1, -1, 0), -1);
        due("n above", x.worth(0, 1, 0, 5), -1);
        due("n below", x.worth(0, 1, 0, -1), -1);
        due("bridge", x.worth(5, 1, 0, 0), -1);
        told(x, "plain shut;");
        due("shut", x.worth(0, 100, 50, 2), 1000000);
        told(x, "plain double;");
        due("double", x.worth(0, 10, 50, 1), 2700);
        told(x, "");

        promise = 30;
        due("goes on", x.stops(0, 10, 0, 1), 0);
        due("just as good", x.stops(0, 8, 0, 4), 1);
        due("better with luck", x.stops(0, 8, 1, 1), 0);
        due("less", x.stops(0, 7, 0, 4), 1);
        due("0 times", x.stops(0, 100, 50, 0), 1);
        due("can't be crossed", x.stops(0, 3, 100, 4), 1);
        due("purse above", x.stops(0, 10000, 0, 0), -1);
        due("h above", x.stops(0, 1, 101, 0), -1);
        due("n above", x.stops(0, 1, 0, 5), -1);
        due("bridge", x.stops(5, 1, 0, 0), -1);

        promise = 31;
        x = five();
        x.person(10);
        x.person(15);
        x.person(10);
        x.person(8);
        due("as much", x.meet(0, 2, 0, 0), 0);
        due("the first has less", x.meet(0, 1, 2, 0), 1);
        due("the second has less", x.meet(1, 0, 0, 2), 1);
        due("both by one, at the most", x.meet(0, 1, 2, 2), 18);
        due("late", x.meet(0, 1, 0, 0), 29);
        due("just as much is enough", x.meet(3, 0, 3, 0), -3);
        due("one can't go on", x.meet(0, 1, 1, 1), -3);
        due("by the fall of the other one", x.meet(0, 1, 0, 1), 2);
        due("one and the same", x.meet(0, 0, 0, 0), -1);
        due("person 4", x.meet(0, 4, 0, 0), -1);
        due("bridge 5", x.meet(0, 1, 0, 5), -1);
        due("bridge -1", x.meet(0, 1, -1, 0), -1);
        due("nobody crossed", x.personOf(0, 1), 0);
        x = new DoubledBridge();
        x.bridge(1, 1, 1, 0);
        x.bridge(1, 1, 2, 0);
        x.person(1000);
        x.person(1060);
        due("behind 60", x.meet(0, 1, 0, 1), 60);
        due("behind 60", x.meet(1, 0, 1, 0), 60);
        x.purse(1, 1061);
        due("not in 60", x.meet(0, 1, 0, 1), -3);
        x.change(0, 2, 0);
        x.change(1, 2, 4);
        x.purse(0, 2);
        x.purse(1, 8);
        due("one comes to nothing", x.meet(0, 1, 0, 1), 2);
        due("one comes to nothing", x.meet(1, 0, 1, 0), 2);
    }

    private static void tales() {
        promise = 32;
        DoubledBridge x = five();
        due("below", x.tale(-1, 0), -1);
        due("above", x.tale(0, 100000), -1);
        due("above", x.tale(100000, 0), -1);
        due("below", x.tale(0, -1), -1);
        for (int i = 0; i < 6; i++) {
            due("tale", x.tale(10 * i, 20 * i), i);
        }
        due("seventh", x.tale(1, 1), -2);
        due("bad seventh", x.tale(1, -1), -1);
        due("six", x.many(3), 6);

        promise = 33;
        due("six", x.forget(), 6);
        due("none", x.forget(), 0);
        due("none", x.many(3), 0);

        promise = 34;
        due("all", x.fits(1, 0), 9000);
        due("first times", x.fits(4, 1), 1);
        due("first toll", x.fits(4, 2), 0);
        x.tale(100, 192);
        due("plain", x.fits(1, 0), 8);
        due("times", x.fits(1, 1), 2);
        due("toll", x.fits(1, 2), 8);
        due("stream", x.fits(2, 0), 5);
        due("stream's times", x.fits(2, 1), 2);
        due("stream's toll", x.fits(2, 2), 4);
        due("egg", x.fits(4, 0), 16);
        due("egg's toll", x.fits(4, 2), 7);
        told(x, "bridge shut;");
        due("no law asked", x.fits(1, 0), 8);
        x.tale(200, 392);
        due("one left", x.fits(1, 0), 1);
        x.tale(200, 393);
        due("none left", x.fits(1, 0), 0);
        due("no times", x.fits(1, 1), -3);
        due("no toll", x.fits(1, 2), -3);
        due("kind 0", x.fits(0, 0), -1);
        due("kind 3", x.fits(3, 0), -1);
        due("kind 5", x.fits(5, 0), -1);
        due("what 3", x.fits(1, 3), -1);
        due("what -1", x.fits(1, -1), -1);
        x.forget();
        x.tale(111, 0);
        due("to 0: plain", x.fits(1, 0), 9);
        due("to 0: egg", x.fits(4, 1), 1);
        due("to 0: egg", x.fits(4, 2), 110);
        x.forget();
        x.tale(112, 9);
        due("the toll 999", x.fits(1, 0), 9);
        x.forget();
        x.tale(112, 8);
        due("the toll 1000", x.fits(1, 0), 8);

        promise = 35;
        x.forget();
        due("no tales", x.liar(1), -3);
        x.tale(10, 12);
        due("one that fits", x.liar(1), -3);
        x.tale(20, 32);
        x.tale(30, 53);
        x.tale(40, 72);
        due("the third", x.liar(1), 2);
        x.forget();
        x.tale(10, 12);
        x.tale(20, 32);
        x.tale(30, 53);
        due("the least", x.liar(1), 2);
        x.tale(31, 99999);
        due("two of them", x.liar(1), -3);
        x.forget();
        x.tale(0, 5);
        due("the only one", x.liar(2), 0);
        x.forget();
        x.tale(10, 12);
        x.tale(10, 13);
        due("either", x.liar(1), 0);
        due("the odd one", x.liar(4), 1);
        x.forget();
        x.tale(1000, 1);
        x.tale(2000, 1001);
        x.tale(3000, 5);
        due("by the greatest toll", x.liar(1), 2);
        x.forget();
        x.tale(100, 899);
        x.tale(200, 1799);
        x.tale(300, 5);
        due("by the most times", x.liar(1), 2);
        due("kind 0", x.liar(0), -1);
        due("kind 3", x.liar(3), -1);
        due("kind 5", x.liar(5), -1);
    }

    private static void rows() {
        promise = 36;
        DoubledBridge x = five();
        due("rows", x.prove(0, 9, 20), 20);
        due("many", x.many(4), 20);
        due("as long as it can be", x.prove(0, 7, 20), 3);
        due("many", x.many(4), 3);
        due("n 0", x.prove(0, 7, 0), -1);
        due("n 21", x.prove(0, 7, 21), -1);
        due("purse -1", x.prove(0, -1, 1), -1);
        due("purse above", x.prove(0, MOST + 1, 1), -1);
        due("bridge", x.prove(5, 7, 1), -1);
        due("these stay", x.many(4), 3);

        promise = 37;
        int[][] want = {{1, 7, 6}, {2, 6, 4}, {3, 4, 0}};
        for (int i = 0; i < 3; i++) {
            for (int what = 0; what < 3; what++) {
                due("row", x.row(i, what), want[i][what]);
            }
        }
        due("row 3", x.row(3, 0), -9);
        due("row -1", x.row(-1, 2), -9);
        due("what 3", x.row(0, 3), -9);
        due("what -1", x.row(1, -1), -9);

        promise = 38;
        due("alter", x.alterRow(1, 2, 5), 4);
        due("then", x.row(1, 2), 5);
        due("the next stays", x.row(2, 0), 3);
        due("row 3", x.alterRow(3, 0, 1), -9);
        due("row -1", x.alterRow(-1, 2, 1), -9);
        due("what 3", x.alterRow(0, 3, 1), -9);
        due("what -1", x.alterRow(1, -1, 1), -9);
        due("any number", x.alterRow(1, 2, Integer.MIN_VALUE), 5);
        due("then", x.row(1, 2), Integer.MIN_VALUE);

        promise = 39;
        due("the second", x.judge(0), 2);
        x.alterRow(1, 2, 4);
        due("all right", x.judge(0), 0);
        due("by another", x.judge(2), 1);
        x.alterRow(2, 1, 5);
        x.alterRow(2, 2, 2);
        due("not the one behind", x.judge(0), 3);
        x.alterRow(2, 1, 4);
        x.alterRow(2, 2, 0);
        x.alterRow(2, 0, 4);
        due("the number", x.judge(0), 3);
        x.alterRow(2, 0, 3);
        x.alterRow(0, 1, 3);
        x.alterRow(0, 2, -1);
        due("can't be crossed", x.judge(0), 1);
        due("bridge", x.judge(5), -1);
        x.prove(0, MOST, 2);
        due("the most", x.judge(0), 0);
        x.alterRow(0, 1, MOST + 1);
        due("above the most", x.judge(0), 1);
        x.prove(0, 9, 1);
        told(x, "plain shut;");
        due("shut", x.judge(0), 1);
        due("none when shut", x.prove(0, 9, 1), 0);
        due("none is right", x.judge(0), 0);
    }

    private static void sheets() {
        promise = 40;
        DoubledBridge x = five();
        due("sheet 4", x.sheet(4, 0, 1), -1);
        due("sheet -1", x.sheet(-1, 0, 1), -1);
        due("sort 5", x.sheet(0, 5, 1), -1);
        due("sort -2", x.sheet(0, -2, 1), -1);
        due("n 41", x.sheet(0, 0, 41), -1);
        due("n -1", x.sheet(0, 0, -1), -14);
        due("bad ahead of -14", x.sheet(0, 5, -1), -1);
        due("n 40", x.sheet(0, 0, 40), 1);
        due("last", x.item(0, 0, 39), 0);
        due("behind", x.item(0, 0, 40), -12);
        due("n 0", x.sheet(0, 1, 0), 1);
        due("none in it", x.item(0, 1, 0), -12);
        due("missing, any n", x.sheet(0, -1, -5), 1);
        due("missing, any n", x.sheet(0, -1, 500), 1);
        due("missing", x.item(0, 1, 0), -11);
        x.sheet(3, 2, 2);
        x.write(3, 1, 7);
        x.sheet(3, 2, 2);
        due("all 0", x.item(3, 2, 1), 0);

        promise = 41;
        int[] v = {300, -1, 70000, Integer.MIN_VALUE, 0};
        int[][] narrowed = {{44, -1, 112, 0, 0}, {300, -1, 4464, 0, 0}, v, v, {1, 1, 1, 1, 0}};
        for (int sort = 0; sort < 5; sort++) {
            x.sheet(1, sort, 5);
            for (int i = 0; i < 5; i++) {
                due("write", x.write(1, i, v[i]), 1);
            }
            for (int i = 0; i < 5; i++) {
                due("narrowed", x.item(1, sort, i), narrowed[sort][i]);
            }
        }
        due("place 5", x.write(1, 5, 1), -12);
        due("place -1", x.write(1, -1, 1), -12);
        due("missing", x.write(2, 0, 1), -11);
        due("sheet 4", x.write(4, 0, 1), -1);
        due("sheet -1", x.write(-1, 0, 1), -1);

        promise = 42;
        due("other sort", x.item(1, 3, 0), -13);
        due("other sort ahead of the place", x.item(1, 3, 9), -13);
        due("place", x.item(1, 4, 5), -12);
        due("place -1", x.item(1, 4, -1), -12);
        due("missing", x.item(2, 0, 0), -11);
        due("sort 5", x.item(1, 5, 0), -1);
        due("sort -1", x.item(1, -1, 0), -1);
        due("sheet 4", x.item(4, 0, 0), -1);

        promise = 43;
        x = five();
        x.person(40);
        x.sheet(0, 0, 5);
        int[] to = {0, 2, 9, -1, 1};
        for (int i = 0; i < 5; i++) {
            x.write(0, i, to[i]);
        }
        due("n 0", x.walks(0, 0, 99, 0), 0);
        due("walks", x.walks(0, 0, 0, 5), 3);
        due("purse", x.personOf(0, 0), 404);
        due("last", x.personOf(0, 2), 1);
        due("over the end", x.walks(0, 0, 3, 5), -12);
        due("what stood ahead was crossed", x.personOf(0, 1), 4);
        due("place -1", x.walks(0, 0, -1, 1), -12);
        due("place far", x.walks(0, 0, Integer.MAX_VALUE, 20), -12);
        due("n 21", x.walks(0, 0, 0, 21), -1);
        due("n -1", x.walks(0, 0, 0, -1), -1);
        due("person", x.walks(1, 0, 0, 1), -1);
        due("sheet", x.walks(0, 4, 0, 1), -1);
        due("missing", x.walks(0, 1, 0, 1), -11);
        due("missing, n 0", x.walks(0, 1, 0, 0), -11);
        x.sheet(1, 2, 3);
        due("other sort", x.walks(0, 1, 0, 1), -13);
        due("other sort, n 0", x.walks(0, 1, 0, 0), -13);
        x.purse(0, 3);
        due("what cross refuses", x.walks(0, 0, 0, 2), 1);
        due("purse", x.personOf(0, 0), 4);
        due("crossed to nothing", x.walks(0, 0, 0, 1), 1);
    }

    private static void shelves() {
        promise = 44;
        DoubledBridge x = five();
        due("bridge", x.shelf(0, 0, 3), 1);
        due("no such bridge", x.shelf(0, 0, 5), -1);
        due("bridge -1", x.shelf(0, 0, -1), -1);
        due("what 3", x.shelf(0, 3, 0), -1);
        due("what -1", x.shelf(0, -1, 0), -1);
        due("shelf 4", x.shelf(4, 0, 0), -1);
        due("shelf -1", x.shelf(-1, 0, 0), -1);
        due("sheet 4", x.shelf(0, 1, 4), -1);
        due("sheet -1", x.shelf(0, 1, -1), -1);
        due("the bridge stays", x.taken(0, 0), 3);
        due("nothing", x.shelf(0, 2, 99), 1);
        due("nothing there", x.taken(0, 0), -11);
        x.sheet(2, 3, 7);
        due("row", x.shelf(0, 1, 2), 1);
        due("its items", x.taken(0, 13), 7);
        x.sheet(2, 0, 9);
        due("the row that it had then", x.taken(0, 13), 7);
        due("missing", x.shelf(0, 1, 3), 1);
        due("nothing then", x.taken(0, 13), -11);
        due("nothing as a bridge", x.taken(0, 0), -11);
        x.shelf(0, 1, 2);
        due("a bridge in place of a row", x.shelf(0, 0, 2), 1);
        due("no row", x.taken(0, 10), -13);

        promise = 45;
        // For each kind the kinds that it can be taken for, as bits.
        int[] under = {0, 0b11, 0b101, 0b1101, 0b10001, 0b110001};
        for (int b = 0; b < 5; b++) {
            x.shelf(1, 0, b);
            for (int as = 0; as <= 5; as++) {
                due("taken", x.taken(1, as), (under[x.bridgeOf(b, 0)] >> as & 1) != 0 ? b : -13);
            }
            for (int as = 10; as <= 14; as++) {
                due("bridge as a row", x.taken(1, as), -13);
            }
        }
        for (int sort = 0; sort < 5; sort++) {
            x.sheet(0, sort, sort);
            x.shelf(1, 1, 0);
            for (int as = 10; as <= 14; as++) {
                due("row", x.taken(1, as), as == 10 + sort ? sort : -13);
            }
            due("row as a bridge", x.taken(1, 0), -13);
        }
        due("as 6", x.taken(1, 6), -1);
        due("as 9", x.taken(1, 9), -1);
        due("as 15", x.taken(1, 15), -1);
        due("as -1", x.taken(1, -1), -1);
        due("shelf 4", x.taken(4, 0), -1);
        due("shelf -1", x.taken(-1, 0), -1);
        x.keep();
        x.bridge(5, 1, 1, 1);
        x.shelf(2, 0, 5);
        due("there", x.taken(2, 4), 5);
        x.again();
        due("not there at the time", x.taken(2, 4), -11);
        due("nor does it act", x.act(2, 0, 1), 0);
        x.bridge(2, 1, 1, 1);
        due("there again, of another kind", x.taken(2, 2), 5);
        x.mend(5, 1);
        due("mended", x.taken(2, 2), -13);
        due("mended", x.taken(2, 1), 5);
    }

    private static void acted(DoubledBridge x, int act, int v, int want, int... bodies) {
        promise = 46;
        due("act " + act + " of " + v, x.act(0, act, v), want);
        promise = 47;
        for (int i = 0; i < bodies.length; i++) {
            due("body " + i, x.trace(i), bodies[i]);
        }
        due("no more bodies", x.trace(bodies.length), -3);
        due("body -1", x.trace(-1), -3);
        promise = 48;
        due("bodies", x.many(6), bodies.length);
    }

    private static void acts() {
        DoubledBridge x = new DoubledBridge();
        // Number 1 each time, the feast 3.
        x.bridge(1, 1, 1, 0);
        x.bridge(1, 1, 1, 3);
        x.shelf(0, 0, 1);
        acted(x, 0, 5, 18, 20, 10);
        acted(x, 1, 5, 36, 11, 20, 10);
        acted(x, 2, 5, 2, 12);
        acted(x, 3, 5, 39, 13, 11, 20, 10);
        acted(x, 2, -5, -2, 12);
        acted(x, 0, Integer.MAX_VALUE, Integer.MIN_VALUE * 3, 20, 10);
        x.mend(1, 2);
        acted(x, 0, 5, 6, 10);
        acted(x, 1, 5, 9, 30, 11, 10);
        acted(x, 2, 5, 2, 12);
        acted(x, 3, 5, 10, 13, 30, 11, 10);
        x.mend(1, 3);
        acted(x, 0, 5, 7, 50, 10);
        acted(x, 1, 5, 11, 30, 11, 50, 10);
        acted(x, 2, 5, 2, 12);
        acted(x, 3, 5, 8, 51, 13, 30, 11, 50, 10, 12);
        x.mend(1, 4);
        acted(x, 0, 5, 6, 10);
        acted(x, 1, 5, 12, 11, 10);
        acted(x, 2, 5, 3, 40, 12);
        acted(x, 3, 5, 15, 13, 11, 10);
        x.mend(1, 5);
        acted(x, 0, 5, 6, 10);
        acted(x, 1, 5, -12, 60, 11, 10);
        acted(x, 2, 5, 7, 61, 40, 12, 10);
        acted(x, 3, 5, -12 ^ 3, 13, 60, 11, 10);
        x.change(1, 3, 1);
        acted(x, 2, 5, -15, 61, 40, 12);
        x.mend(1, 3);
        acted(x, 3, 5, -15, 51, 13, 30, 11, 50, 10, 12);
        acted(x, 0, 5, 7, 50, 10);
        x.change(1, 3, 0);
        acted(x, 2, Integer.MIN_VALUE, Integer.MIN_VALUE, 12);
        acted(x, 4, 5, 0);
        acted(x, 0, 5, 7, 50, 10);
        acted(x, -1, 5, 0);
        x.act(0, 0, 5);
        x.shelf(0, 2, 0);
        acted(x, 0, 5, 0);
        x.sheet(0, 0, 3);
        x.shelf(0, 1, 0);
        acted(x, 0, 5, 0);
        promise = 46;
        due("shelf 4", x.act(4, 0, 5), 0);
        due("shelf -1", x.act(-1, 0, 5), 0);
        promise = 48;
        due("bridges", x.many(0), 2);
        due("what 7", x.many(7), -1);
        due("what -1", x.many(-1), -1);
        x.feed(0L, 3);
        due("bytes", x.many(5), 3);
    }

    private static void kept() {
        promise = 49;
        DoubledBridge x = five();
        x.person(20);
        x.cross(0, 0);
        x.tale(10, 12);
        told(x, "plain dear 2;");
        x.feed(0x20L, 1);
        x.prove(0, 20, 2);
        x.sheet(0, 0, 3);
        x.shelf(0, 0, 0);
        x.act(0, 0, 1);
        due("keep", x.keep(), 1);
        due("nothing changed", x.personOf(0, 0), 32);

        promise = 50;
        x.bridge(1, 9, 9, 0);
        x.change(0, 1, 7);
        x.mend(1, 5);
        x.day(0);
        x.cross(0, 2);
        x.person(3);
        x.tale(1, 1);
        told(x, "bridge shut;");
        x.feed(0x2020L, 2);
        x.prove(0, 20, 1);
        x.sheet(0, 1, 4);
        x.shelf(0, 0, 1);
        x.act(0, 1, 1);
        due("again", x.again(), 5);
        due("bridges", x.many(0), 5);
        due("times", x.bridgeOf(0, 1), 2);
        due("kind", x.bridgeOf(1, 0), 2);
        due("law", x.bridgeOf(0, 5), 10);
        due("open", x.bridgeOf(2, 6), 1);
        due("clauses", x.many(2), 1);
        due("people", x.many(1), 1);
        due("purse", x.personOf(0, 0), 32);
        due("crossed", x.personOf(0, 1), 1);
        due("last", x.personOf(0, 2), 0);
        due("tales", x.many(3), 1);
        due("the tale", x.fits(1, 2), 8);
        due("the tape isn't kept", x.many(5), 2);
        due("nor the rows", x.many(4), 0);
        due("nor the sheets", x.item(0, 1, 3), 0);
        due("nor the shelves", x.taken(0, 2), 1);
        due("nor the trace", x.trace(0), 60);
        due("the day", x.day(1), 4);
        x.change(0, 2, 999);
        x.purse(0, 1);
        x.forget();
        due("it stays", x.again(), 5);
        due("day", x.day(4), 4);
        due("toll", x.bridgeOf(0, 2), 8);
        due("purse", x.personOf(0, 0), 32);
        due("tale", x.many(3), 1);
        x.change(0, 2, 77);
        x.keep();
        x.change(0, 2, 78);
        due("the latest", x.again(), 5);
        due("the latest toll", x.bridgeOf(0, 2), 77);
    }
}
